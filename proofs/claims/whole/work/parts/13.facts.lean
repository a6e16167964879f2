theorem Y_X9_writeNote : z_Y yX9_writeNote cX9_writeNote 3 (some .int) 1 := ⟨(z_in 1359 (by decide +kernel) rfl), (z_in 72 (by decide +kernel) rfl), by decide, by decide +kernel⟩
theorem Y_X9_init : z_Y yX9_init cX9_init 1 none 0 := ⟨(z_in 110 (by decide +kernel) rfl), (z_in 72 (by decide +kernel) rfl), by decide, by decide +kernel⟩
theorem Y_X7_init : z_Y yX7_init cX7_init 1 none 0 := ⟨(z_in 118 (by decide +kernel) rfl), (z_in 73 (by decide +kernel) rfl), by decide, by decide +kernel⟩
theorem Y_J7_fill_53178 : z_Y yJ7_fill_53178 cJ7_fill_53178 4 none 2 := ⟨(z_in 122 (by decide +kernel) rfl), (z_in 74 (by decide +kernel) rfl), by decide, by decide +kernel⟩
theorem Y_X4_init : z_Y yX4_init cX4_init 1 none 0 := ⟨(z_in 226 (by decide +kernel) rfl), (z_in 75 (by decide +kernel) rfl), by decide, by decide +kernel⟩
theorem Y_X6_init : z_Y yX6_init cX6_init 1 none 0 := ⟨(z_in 245 (by decide +kernel) rfl), (z_in 76 (by decide +kernel) rfl), by decide, by decide +kernel⟩
theorem Y_X0_init : z_Y yX0_init cX0_init 1 none 0 := ⟨(z_in 258 (by decide +kernel) rfl), (z_in 77 (by decide +kernel) rfl), by decide, by decide +kernel⟩
theorem Y_X3_init : z_Y yX3_init cX3_init 1 none 0 := ⟨(z_in 264 (by decide +kernel) rfl), (z_in 78 (by decide +kernel) rfl), by decide, by decide +kernel⟩
theorem Y_X8_init : z_Y yX8_init cX8_init 1 none 0 := ⟨(z_in 299 (by decide +kernel) rfl), (z_in 79 (by decide +kernel) rfl), by decide, by decide +kernel⟩
theorem Y_X2_init : z_Y yX2_init cX2_init 1 none 0 := ⟨(z_in 346 (by decide +kernel) rfl), (z_in 80 (by decide +kernel) rfl), by decide, by decide +kernel⟩
theorem Y_J4_init_da8c8 : z_Y yJ4_init_da8c8 cJ4_init_da8c8 1 none 0 := ⟨(z_in 365 (by decide +kernel) rfl), (z_in 82 (by decide +kernel) rfl), by decide, by decide +kernel⟩
theorem Y_J5_init_d00df : z_Y yJ5_init_d00df cJ5_init_d00df 2 none 1 := ⟨(z_in 368 (by decide +kernel) rfl), (z_in 81 (by decide +kernel) rfl), by decide, by decide +kernel⟩
theorem Y_X10_init : z_Y yX10_init cX10_init 2 none 0 := ⟨(z_in 1677 (by decide +kernel) rfl), (z_in 85 (by decide +kernel) rfl), by decide, by decide +kernel⟩
theorem Y_L_addNote : z_YH yL_addNote cL_addNote 5 (some .int) [(0, 10, 13, 13), (0, 10, 17, 15)] 4 := ⟨(z_in 637 (by decide +kernel) rfl), (z_in 71 (by decide +kernel) rfl), by decide, by decide +kernel⟩
theorem Y_X9_addNote : z_Y yX9_addNote cX9_addNote 3 (some .int) 2 := ⟨(z_in 643 (by decide +kernel) rfl), (z_in 72 (by decide +kernel) rfl), by decide, by decide +kernel⟩
theorem Y_X9_change : z_Y yX9_change cX9_change 6 (some .int) 4 := ⟨(z_in 647 (by decide +kernel) rfl), (z_in 72 (by decide +kernel) rfl), by decide, by decide +kernel⟩
theorem Y_X5_judge : z_Y yX5_judge cX5_judge 5 (some .int) 5 := ⟨(z_in 650 (by decide +kernel) rfl), (z_in 86 (by decide +kernel) rfl), by decide, by decide +kernel⟩
theorem Y_X5_judgeNote : z_Y yX5_judgeNote cX5_judgeNote 3 (some .int) 3 := ⟨(z_in 653 (by decide +kernel) rfl), (z_in 86 (by decide +kernel) rfl), by decide, by decide +kernel⟩
theorem Y_X9_isPage : z_Y yX9_isPage cX9_isPage 1 (some .boolean) 1 := ⟨(z_in 656 (by decide +kernel) rfl), (z_in 72 (by decide +kernel) rfl), by decide, by decide +kernel⟩
theorem Y_X9_isBetween : z_Y yX9_isBetween cX9_isBetween 3 (some .boolean) 3 := ⟨(z_in 659 (by decide +kernel) rfl), (z_in 72 (by decide +kernel) rfl), by decide, by decide +kernel⟩
theorem Y_X5_judgeCitation : z_Y yX5_judgeCitation cX5_judgeCitation 4 (some .int) 4 := ⟨(z_in 663 (by decide +kernel) rfl), (z_in 86 (by decide +kernel) rfl), by decide, by decide +kernel⟩
theorem Y_X7_hasNote : z_Y yX7_hasNote cX7_hasNote 2 (some .boolean) 1 := ⟨(z_in 667 (by decide +kernel) rfl), (z_in 73 (by decide +kernel) rfl), by decide, by decide +kernel⟩
theorem Y_X9_has : z_Y yX9_has cX9_has 2 (some .boolean) 2 := ⟨(z_in 447 (by decide +kernel) rfl), (z_in 72 (by decide +kernel) rfl), by decide, by decide +kernel⟩
theorem Y_X5_judgeNet : z_Y yX5_judgeNet cX5_judgeNet 4 (some .int) 4 := ⟨(z_in 671 (by decide +kernel) rfl), (z_in 86 (by decide +kernel) rfl), by decide, by decide +kernel⟩
theorem Y_X7_hasNet : z_Y yX7_hasNet cX7_hasNet 2 (some .boolean) 1 := ⟨(z_in 675 (by decide +kernel) rfl), (z_in 73 (by decide +kernel) rfl), by decide, by decide +kernel⟩
theorem Y_X5_judgeHaul : z_Y yX5_judgeHaul cX5_judgeHaul 3 (some .int) 2 := ⟨(z_in 678 (by decide +kernel) rfl), (z_in 86 (by decide +kernel) rfl), by decide, by decide +kernel⟩
theorem Y_X7_presentSeason : z_Y yX7_presentSeason cX7_presentSeason 1 (some .int) 0 := ⟨(z_in 555 (by decide +kernel) rfl), (z_in 73 (by decide +kernel) rfl), by decide, by decide +kernel⟩
theorem Y_J9_floorMod_7cf53 : z_Y yJ9_floorMod_7cf53 cJ9_floorMod_7cf53 3 (some .int) 2 := ⟨(z_in 558 (by decide +kernel) rfl), (z_in 87 (by decide +kernel) rfl), by decide, by decide +kernel⟩
theorem Y_X7_count : z_Y yX7_count cX7_count 2 (some .int) 1 := ⟨(z_in 527 (by decide +kernel) rfl), (z_in 73 (by decide +kernel) rfl), by decide, by decide +kernel⟩
theorem Y_X7_setOf : z_Y yX7_setOf cX7_setOf 4 (some .int) 1 := ⟨(z_in 531 (by decide +kernel) rfl), (z_in 73 (by decide +kernel) rfl), by decide, by decide +kernel⟩
theorem Y_X9_bit : z_Y yX9_bit cX9_bit 1 (some .int) 1 := ⟨(z_in 444 (by decide +kernel) rfl), (z_in 72 (by decide +kernel) rfl), by decide, by decide +kernel⟩
theorem Y_J6_bitCount_0f7a4 : z_Y yJ6_bitCount_0f7a4 cJ6_bitCount_0f7a4 1 (some .int) 1 := ⟨(z_in 457 (by decide +kernel) rfl), (z_in 89 (by decide +kernel) rfl), by decide, by decide +kernel⟩
theorem Y_X5_judgeFree : z_Y yX5_judgeFree cX5_judgeFree 2 (some .int) 2 := ⟨(z_in 683 (by decide +kernel) rfl), (z_in 86 (by decide +kernel) rfl), by decide, by decide +kernel⟩
theorem Y_X5_judgeLicence : z_Y yX5_judgeLicence cX5_judgeLicence 1 (some .int) 1 := ⟨(z_in 686 (by decide +kernel) rfl), (z_in 86 (by decide +kernel) rfl), by decide, by decide +kernel⟩
theorem Y_X7_licencePrice : z_Y yX7_licencePrice cX7_licencePrice 1 (some .int) 0 := ⟨(z_in 690 (by decide +kernel) rfl), (z_in 73 (by decide +kernel) rfl), by decide, by decide +kernel⟩
theorem Y_X5_detailOf : z_Y yX5_detailOf cX5_detailOf 4 (some .int) 4 := ⟨(z_in 695 (by decide +kernel) rfl), (z_in 86 (by decide +kernel) rfl), by decide, by decide +kernel⟩
theorem Y_X7_countCitedFrom : z_Y yX7_countCitedFrom cX7_countCitedFrom 2 (some .int) 1 := ⟨(z_in 699 (by decide +kernel) rfl), (z_in 73 (by decide +kernel) rfl), by decide, by decide +kernel⟩
theorem Y_X2_keep : z_Y yX2_keep cX2_keep 4 none 3 := ⟨(z_in 703 (by decide +kernel) rfl), (z_in 80 (by decide +kernel) rfl), by decide, by decide +kernel⟩
theorem Y_X9_refuse : z_Y yX9_refuse cX9_refuse 1 none 1 := ⟨(z_in 706 (by decide +kernel) rfl), (z_in 72 (by decide +kernel) rfl), by decide, by decide +kernel⟩
theorem Y_X4_remember : z_Y yX4_remember cX4_remember 3 none 1 := ⟨(z_in 830 (by decide +kernel) rfl), (z_in 75 (by decide +kernel) rfl), by decide, by decide +kernel⟩
theorem Y_X7_copyFrom : z_Y yX7_copyFrom cX7_copyFrom 2 none 1 := ⟨(z_in 633 (by decide +kernel) rfl), (z_in 73 (by decide +kernel) rfl), by decide, by decide +kernel⟩
theorem Y_J9_min_7cf53 : z_Y yJ9_min_7cf53 cJ9_min_7cf53 2 (some .int) 2 := ⟨(z_in 450 (by decide +kernel) rfl), (z_in 87 (by decide +kernel) rfl), by decide, by decide +kernel⟩
theorem Y_X1_perform : z_Y yX1_perform cX1_perform 6 (some .int) 6 := ⟨(z_in 836 (by decide +kernel) rfl), (z_in 98 (by decide +kernel) rfl), by decide, by decide +kernel⟩
theorem Y_X1_putNote : z_Y yX1_putNote cX1_putNote 4 (some .int) 3 := ⟨(z_in 839 (by decide +kernel) rfl), (z_in 98 (by decide +kernel) rfl), by decide, by decide +kernel⟩
theorem Y_X1_replace : z_Y yX1_replace cX1_replace 4 (some .int) 3 := ⟨(z_in 844 (by decide +kernel) rfl), (z_in 98 (by decide +kernel) rfl), by decide, by decide +kernel⟩
theorem Y_X1_putNet : z_Y yX1_putNet cX1_putNet 5 (some .int) 4 := ⟨(z_in 847 (by decide +kernel) rfl), (z_in 98 (by decide +kernel) rfl), by decide, by decide +kernel⟩
theorem Y_X1_cutNet : z_Y yX1_cutNet cX1_cutNet 4 (some .int) 2 := ⟨(z_in 850 (by decide +kernel) rfl), (z_in 98 (by decide +kernel) rfl), by decide, by decide +kernel⟩
theorem Y_X1_haulNet : z_Y yX1_haulNet cX1_haulNet 4 (some .int) 2 := ⟨(z_in 853 (by decide +kernel) rfl), (z_in 98 (by decide +kernel) rfl), by decide, by decide +kernel⟩
theorem Y_X7_catchOf : z_Y yX7_catchOf cX7_catchOf 5 (some .int) 1 := ⟨(z_in 857 (by decide +kernel) rfl), (z_in 73 (by decide +kernel) rfl), by decide, by decide +kernel⟩
theorem Y_X7_floatingWithin : z_Y yX7_floatingWithin cX7_floatingWithin 4 (some .int) 1 := ⟨(z_in 861 (by decide +kernel) rfl), (z_in 73 (by decide +kernel) rfl), by decide, by decide +kernel⟩
theorem Y_X7_isCovered : z_Y yX7_isCovered cX7_isCovered 3 (some .boolean) 2 := ⟨(z_in 865 (by decide +kernel) rfl), (z_in 73 (by decide +kernel) rfl), by decide, by decide +kernel⟩
theorem Y_X7_citedFromSet : z_Y yX7_citedFromSet cX7_citedFromSet 4 (some .int) 1 := ⟨(z_in 869 (by decide +kernel) rfl), (z_in 73 (by decide +kernel) rfl), by decide, by decide +kernel⟩
theorem Y_X6_choose : z_Y yX6_choose cX6_choose 6 (some .int) 1 := ⟨(z_in 541 (by decide +kernel) rfl), (z_in 76 (by decide +kernel) rfl), by decide, by decide +kernel⟩
theorem Y_X6_heldOn : z_Y yX6_heldOn cX6_heldOn 5 (some .int) 3 := ⟨(z_in 545 (by decide +kernel) rfl), (z_in 76 (by decide +kernel) rfl), by decide, by decide +kernel⟩
theorem Y_X7_roomOn : z_Y yX7_roomOn cX7_roomOn 3 (some .int) 1 := ⟨(z_in 551 (by decide +kernel) rfl), (z_in 73 (by decide +kernel) rfl), by decide, by decide +kernel⟩
theorem Y_J9_max_7cf53 : z_Y yJ9_max_7cf53 cJ9_max_7cf53 2 (some .int) 2 := ⟨(z_in 561 (by decide +kernel) rfl), (z_in 87 (by decide +kernel) rfl), by decide, by decide +kernel⟩
theorem Y_X6_chooseFrom : z_Y yX6_chooseFrom cX6_chooseFrom 6 (some .int) 3 := ⟨(z_in 565 (by decide +kernel) rfl), (z_in 76 (by decide +kernel) rfl), by decide, by decide +kernel⟩
theorem Y_X6_tryWith : z_Y yX6_tryWith cX6_tryWith 6 none 3 := ⟨(z_in 571 (by decide +kernel) rfl), (z_in 76 (by decide +kernel) rfl), by decide, by decide +kernel⟩
theorem Y_X6_turned : z_Y yX6_turned cX6_turned 3 (some .int) 1 := ⟨(z_in 575 (by decide +kernel) rfl), (z_in 76 (by decide +kernel) rfl), by decide, by decide +kernel⟩
theorem Y_X1_landHold : z_Y yX1_landHold cX1_landHold 4 (some .int) 2 := ⟨(z_in 875 (by decide +kernel) rfl), (z_in 98 (by decide +kernel) rfl), by decide, by decide +kernel⟩
theorem Y_X7_weightOfAll : z_Y yX7_weightOfAll cX7_weightOfAll 4 (some .int) 1 := ⟨(z_in 579 (by decide +kernel) rfl), (z_in 73 (by decide +kernel) rfl), by decide, by decide +kernel⟩
theorem Y_X1_giveBack : z_Y yX1_giveBack cX1_giveBack 2 none 2 := ⟨(z_in 879 (by decide +kernel) rfl), (z_in 98 (by decide +kernel) rfl), by decide, by decide +kernel⟩
theorem Y_X1_payLicence : z_Y yX1_payLicence cX1_payLicence 1 (some .int) 1 := ⟨(z_in 883 (by decide +kernel) rfl), (z_in 98 (by decide +kernel) rfl), by decide, by decide +kernel⟩
theorem Y_X1_passDays : z_Y yX1_passDays cX1_passDays 4 (some .int) 2 := ⟨(z_in 887 (by decide +kernel) rfl), (z_in 98 (by decide +kernel) rfl), by decide, by decide +kernel⟩
theorem Y_X1_passDay : z_Y yX1_passDay cX1_passDay 2 (some .int) 1 := ⟨(z_in 890 (by decide +kernel) rfl), (z_in 98 (by decide +kernel) rfl), by decide, by decide +kernel⟩
theorem Y_X1_drift : z_Y yX1_drift cX1_drift 4 (some .int) 1 := ⟨(z_in 895 (by decide +kernel) rfl), (z_in 98 (by decide +kernel) rfl), by decide, by decide +kernel⟩
theorem Y_X10_addNote : z_Y yX10_addNote cX10_addNote 4 (some .int) 2 := ⟨(z_in 1747 (by decide +kernel) rfl), (z_in 85 (by decide +kernel) rfl), by decide, by decide +kernel⟩
theorem Y_X10_isPage : z_Y yX10_isPage cX10_isPage 1 (some .boolean) 1 := ⟨(z_in 1750 (by decide +kernel) rfl), (z_in 85 (by decide +kernel) rfl), by decide, by decide +kernel⟩
theorem Y_X10_in : z_Y yX10_in cX10_in 3 (some .boolean) 3 := ⟨(z_in 1753 (by decide +kernel) rfl), (z_in 85 (by decide +kernel) rfl), by decide, by decide +kernel⟩
theorem Y_X10_fails : z_Y yX10_fails cX10_fails 2 (some .boolean) 1 := ⟨(z_in 1757 (by decide +kernel) rfl), (z_in 85 (by decide +kernel) rfl), by decide, by decide +kernel⟩
theorem Y_X10_denies : z_Y yX10_denies cX10_denies 4 (some .int) 3 := ⟨(z_in 1761 (by decide +kernel) rfl), (z_in 85 (by decide +kernel) rfl), by decide, by decide +kernel⟩
theorem Y_X10_keeps : z_Y yX10_keeps cX10_keeps 3 none 1 := ⟨(z_in 1765 (by decide +kernel) rfl), (z_in 85 (by decide +kernel) rfl), by decide, by decide +kernel⟩
theorem Y_X10_copies : z_Y yX10_copies cX10_copies 5 none 4 := ⟨(z_in 1768 (by decide +kernel) rfl), (z_in 85 (by decide +kernel) rfl), by decide, by decide +kernel⟩
theorem Y_X10_lays : z_Y yX10_lays cX10_lays 4 none 3 := ⟨(z_in 1772 (by decide +kernel) rfl), (z_in 85 (by decide +kernel) rfl), by decide, by decide +kernel⟩
theorem Y_X10_thrown : z_Y yX10_thrown cX10_thrown 1 (some .int) 0 := ⟨(z_in 1743 (by decide +kernel) rfl), (z_in 85 (by decide +kernel) rfl), by decide, by decide +kernel⟩
theorem Y_L_cite : z_YH yL_cite cL_cite 5 (some .int) [(0, 10, 13, 20), (0, 10, 17, 13), (0, 10, 21, 15)] 4 := ⟨(z_in 898 (by decide +kernel) rfl), (z_in 71 (by decide +kernel) rfl), by decide, by decide +kernel⟩
theorem Y_X9_cite : z_Y yX9_cite cX9_cite 3 (some .int) 2 := ⟨(z_in 903 (by decide +kernel) rfl), (z_in 72 (by decide +kernel) rfl), by decide, by decide +kernel⟩
theorem Y_X10_cite : z_Y yX10_cite cX10_cite 3 (some .int) 2 := ⟨(z_in 1776 (by decide +kernel) rfl), (z_in 85 (by decide +kernel) rfl), by decide, by decide +kernel⟩
theorem Y_X10_turns : z_Y yX10_turns cX10_turns 4 (some .int) 3 := ⟨(z_in 1780 (by decide +kernel) rfl), (z_in 85 (by decide +kernel) rfl), by decide, by decide +kernel⟩
theorem Y_X10_areNone : z_Y yX10_areNone cX10_areNone 3 (some .boolean) 2 := ⟨(z_in 1784 (by decide +kernel) rfl), (z_in 85 (by decide +kernel) rfl), by decide, by decide +kernel⟩
theorem Y_X10_isNote : z_Y yX10_isNote cX10_isNote 2 (some .boolean) 1 := ⟨(z_in 1788 (by decide +kernel) rfl), (z_in 85 (by decide +kernel) rfl), by decide, by decide +kernel⟩
theorem Y_X10_isCiting : z_Y yX10_isCiting cX10_isCiting 3 (some .boolean) 2 := ⟨(z_in 1792 (by decide +kernel) rfl), (z_in 85 (by decide +kernel) rfl), by decide, by decide +kernel⟩
theorem Y_X10_of : z_Y yX10_of cX10_of 3 (some .int) 2 := ⟨(z_in 1796 (by decide +kernel) rfl), (z_in 85 (by decide +kernel) rfl), by decide, by decide +kernel⟩
theorem Y_X10_bits : z_Y yX10_bits cX10_bits 3 (some .int) 1 := ⟨(z_in 1799 (by decide +kernel) rfl), (z_in 85 (by decide +kernel) rfl), by decide, by decide +kernel⟩
theorem Y_L_uncite : z_YH yL_uncite cL_uncite 5 (some .int) [(0, 10, 13, 20), (0, 10, 17, 13), (0, 10, 21, 15)] 4 := ⟨(z_in 906 (by decide +kernel) rfl), (z_in 71 (by decide +kernel) rfl), by decide, by decide +kernel⟩
theorem Y_X9_uncite : z_Y yX9_uncite cX9_uncite 3 (some .int) 2 := ⟨(z_in 910 (by decide +kernel) rfl), (z_in 72 (by decide +kernel) rfl), by decide, by decide +kernel⟩
theorem Y_X10_uncite : z_Y yX10_uncite cX10_uncite 3 (some .int) 2 := ⟨(z_in 1803 (by decide +kernel) rfl), (z_in 85 (by decide +kernel) rfl), by decide, by decide +kernel⟩
theorem Y_X9_noteCount : z_Y yX9_noteCount cX9_noteCount 1 (some .int) 0 := ⟨(z_in 425 (by decide +kernel) rfl), (z_in 72 (by decide +kernel) rfl), by decide, by decide +kernel⟩
theorem Y_X10_noteCount : z_Y yX10_noteCount cX10_noteCount 1 (some .int) 0 := ⟨(z_in 1807 (by decide +kernel) rfl), (z_in 85 (by decide +kernel) rfl), by decide, by decide +kernel⟩
theorem Y_L_pageOf : z_YH yL_pageOf cL_pageOf 4 (some .int) [(0, 9, 12, 20)] 3 := ⟨(z_in 913 (by decide +kernel) rfl), (z_in 71 (by decide +kernel) rfl), by decide, by decide +kernel⟩
theorem Y_X9_pageOf : z_Y yX9_pageOf cX9_pageOf 2 (some .int) 1 := ⟨(z_in 917 (by decide +kernel) rfl), (z_in 72 (by decide +kernel) rfl), by decide, by decide +kernel⟩
theorem Y_X9_needNote : z_Y yX9_needNote cX9_needNote 2 none 1 := ⟨(z_in 921 (by decide +kernel) rfl), (z_in 72 (by decide +kernel) rfl), by decide, by decide +kernel⟩
theorem Y_X10_pageOf : z_Y yX10_pageOf cX10_pageOf 2 (some .int) 1 := ⟨(z_in 1811 (by decide +kernel) rfl), (z_in 85 (by decide +kernel) rfl), by decide, by decide +kernel⟩
theorem Y_X10_isNone : z_Y yX10_isNone cX10_isNone 2 (some .boolean) 1 := ⟨(z_in 1815 (by decide +kernel) rfl), (z_in 85 (by decide +kernel) rfl), by decide, by decide +kernel⟩
theorem Y_L_weightOf : z_YH yL_weightOf cL_weightOf 4 (some .int) [(0, 9, 12, 20)] 3 := ⟨(z_in 925 (by decide +kernel) rfl), (z_in 71 (by decide +kernel) rfl), by decide, by decide +kernel⟩
theorem Y_X9_weightOf : z_Y yX9_weightOf cX9_weightOf 2 (some .int) 1 := ⟨(z_in 929 (by decide +kernel) rfl), (z_in 72 (by decide +kernel) rfl), by decide, by decide +kernel⟩
theorem Y_X10_weightOf : z_Y yX10_weightOf cX10_weightOf 2 (some .int) 1 := ⟨(z_in 1819 (by decide +kernel) rfl), (z_in 85 (by decide +kernel) rfl), by decide, by decide +kernel⟩
theorem Y_L_stateOf : z_YH yL_stateOf cL_stateOf 4 (some .int) [(0, 9, 12, 20)] 3 := ⟨(z_in 932 (by decide +kernel) rfl), (z_in 71 (by decide +kernel) rfl), by decide, by decide +kernel⟩
theorem Y_X9_stateOf : z_Y yX9_stateOf cX9_stateOf 2 (some .char) 1 := ⟨(z_in 936 (by decide +kernel) rfl), (z_in 72 (by decide +kernel) rfl), by decide, by decide +kernel⟩
theorem Y_X10_stateOf : z_Y yX10_stateOf cX10_stateOf 2 (some .char) 1 := ⟨(z_in 1823 (by decide +kernel) rfl), (z_in 85 (by decide +kernel) rfl), by decide, by decide +kernel⟩
theorem Y_X10_sign : z_Y yX10_sign cX10_sign 2 (some .char) 1 := ⟨(z_in 1827 (by decide +kernel) rfl), (z_in 85 (by decide +kernel) rfl), by decide, by decide +kernel⟩
theorem Y_L_citedBy : z_YH yL_citedBy cL_citedBy 4 (some .int) [(0, 9, 12, 20)] 3 := ⟨(z_in 939 (by decide +kernel) rfl), (z_in 71 (by decide +kernel) rfl), by decide, by decide +kernel⟩
theorem Y_X9_citedBy : z_Y yX9_citedBy cX9_citedBy 2 (some .int) 1 := ⟨(z_in 943 (by decide +kernel) rfl), (z_in 72 (by decide +kernel) rfl), by decide, by decide +kernel⟩
theorem Y_X7_countCiting : z_Y yX7_countCiting cX7_countCiting 4 (some .int) 1 := ⟨(z_in 501 (by decide +kernel) rfl), (z_in 73 (by decide +kernel) rfl), by decide, by decide +kernel⟩
theorem Y_X10_citedBy : z_Y yX10_citedBy cX10_citedBy 2 (some .int) 1 := ⟨(z_in 1831 (by decide +kernel) rfl), (z_in 85 (by decide +kernel) rfl), by decide, by decide +kernel⟩
theorem Y_X10_cited : z_Y yX10_cited cX10_cited 4 (some .int) 1 := ⟨(z_in 1835 (by decide +kernel) rfl), (z_in 85 (by decide +kernel) rfl), by decide, by decide +kernel⟩
theorem Y_L_doesCite : z_YH yL_doesCite cL_doesCite 5 (some .int) [(0, 17, 20, 20)] 4 := ⟨(z_in 947 (by decide +kernel) rfl), (z_in 71 (by decide +kernel) rfl), by decide, by decide +kernel⟩
theorem Y_X9_doesCite : z_Y yX9_doesCite cX9_doesCite 3 (some .boolean) 2 := ⟨(z_in 951 (by decide +kernel) rfl), (z_in 72 (by decide +kernel) rfl), by decide, by decide +kernel⟩
theorem Y_X10_doesCite : z_Y yX10_doesCite cX10_doesCite 3 (some .boolean) 2 := ⟨(z_in 1839 (by decide +kernel) rfl), (z_in 85 (by decide +kernel) rfl), by decide, by decide +kernel⟩
theorem Y_L_reaches : z_YH yL_reaches cL_reaches 5 (some .int) [(0, 17, 20, 20)] 4 := ⟨(z_in 955 (by decide +kernel) rfl), (z_in 71 (by decide +kernel) rfl), by decide, by decide +kernel⟩
theorem Y_X9_reaches : z_Y yX9_reaches cX9_reaches 3 (some .boolean) 2 := ⟨(z_in 959 (by decide +kernel) rfl), (z_in 72 (by decide +kernel) rfl), by decide, by decide +kernel⟩
theorem Y_X0_leadsTo : z_Y yX0_leadsTo cX0_leadsTo 4 (some .boolean) 3 := ⟨(z_in 963 (by decide +kernel) rfl), (z_in 77 (by decide +kernel) rfl), by decide, by decide +kernel⟩
theorem Y_X0_fillReached : z_Y yX0_fillReached cX0_fillReached 4 none 1 := ⟨(z_in 472 (by decide +kernel) rfl), (z_in 77 (by decide +kernel) rfl), by decide, by decide +kernel⟩
theorem Y_X10_reaches : z_Y yX10_reaches cX10_reaches 3 (some .boolean) 2 := ⟨(z_in 1843 (by decide +kernel) rfl), (z_in 85 (by decide +kernel) rfl), by decide, by decide +kernel⟩
theorem Y_X10_reached : z_Y yX10_reached cX10_reached 5 (some .int) 1 := ⟨(z_in 1847 (by decide +kernel) rfl), (z_in 85 (by decide +kernel) rfl), by decide, by decide +kernel⟩
theorem Y_X9_circles : z_Y yX9_circles cX9_circles 1 (some .int) 0 := ⟨(z_in 429 (by decide +kernel) rfl), (z_in 72 (by decide +kernel) rfl), by decide, by decide +kernel⟩
theorem Y_X0_countByDepth : z_Y yX0_countByDepth cX0_countByDepth 2 (some .int) 1 := ⟨(z_in 433 (by decide +kernel) rfl), (z_in 77 (by decide +kernel) rfl), by decide, by decide +kernel⟩
theorem Y_X3_run : z_Y yX3_run cX3_run 3 (some .int) 1 := ⟨(z_in 437 (by decide +kernel) rfl), (z_in 78 (by decide +kernel) rfl), by decide, by decide +kernel⟩
theorem Y_X3_visit : z_Y yX3_visit cX3_visit 7 (some .int) 4 := ⟨(z_in 441 (by decide +kernel) rfl), (z_in 78 (by decide +kernel) rfl), by decide, by decide +kernel⟩
theorem Y_X3_close : z_Y yX3_close cX3_close 5 none 2 := ⟨(z_in 454 (by decide +kernel) rfl), (z_in 78 (by decide +kernel) rfl), by decide, by decide +kernel⟩
theorem Y_X10_circles : z_Y yX10_circles cX10_circles 1 (some .int) 0 := ⟨(z_in 1851 (by decide +kernel) rfl), (z_in 85 (by decide +kernel) rfl), by decide, by decide +kernel⟩
theorem Y_X10_rounds : z_Y yX10_rounds cX10_rounds 3 (some .int) 0 := ⟨(z_in 1855 (by decide +kernel) rfl), (z_in 85 (by decide +kernel) rfl), by decide, by decide +kernel⟩
theorem Y_X10_circle : z_Y yX10_circle cX10_circle 4 (some .int) 1 := ⟨(z_in 1859 (by decide +kernel) rfl), (z_in 85 (by decide +kernel) rfl), by decide, by decide +kernel⟩
theorem Y_X9_circlesByTable : z_Y yX9_circlesByTable cX9_circlesByTable 1 (some .int) 0 := ⟨(z_in 464 (by decide +kernel) rfl), (z_in 72 (by decide +kernel) rfl), by decide, by decide +kernel⟩
theorem Y_X0_countByTable : z_Y yX0_countByTable cX0_countByTable 5 (some .int) 1 := ⟨(z_in 468 (by decide +kernel) rfl), (z_in 77 (by decide +kernel) rfl), by decide, by decide +kernel⟩
theorem Y_X0_circleOf : z_Y yX0_circleOf cX0_circleOf 5 (some .int) 2 := ⟨(z_in 480 (by decide +kernel) rfl), (z_in 77 (by decide +kernel) rfl), by decide, by decide +kernel⟩
theorem Y_X10_circlesByTable : z_Y yX10_circlesByTable cX10_circlesByTable 1 (some .int) 0 := ⟨(z_in 1863 (by decide +kernel) rfl), (z_in 85 (by decide +kernel) rfl), by decide, by decide +kernel⟩
theorem Y_L_circleSize : z_YH yL_circleSize cL_circleSize 4 (some .int) [(0, 9, 12, 20)] 3 := ⟨(z_in 966 (by decide +kernel) rfl), (z_in 71 (by decide +kernel) rfl), by decide, by decide +kernel⟩
theorem Y_X9_circleSize : z_Y yX9_circleSize cX9_circleSize 2 (some .int) 1 := ⟨(z_in 970 (by decide +kernel) rfl), (z_in 72 (by decide +kernel) rfl), by decide, by decide +kernel⟩
theorem Y_X0_sizeAround : z_Y yX0_sizeAround cX0_sizeAround 3 (some .int) 2 := ⟨(z_in 974 (by decide +kernel) rfl), (z_in 77 (by decide +kernel) rfl), by decide, by decide +kernel⟩
theorem Y_X10_circleSize : z_Y yX10_circleSize cX10_circleSize 2 (some .int) 1 := ⟨(z_in 1867 (by decide +kernel) rfl), (z_in 85 (by decide +kernel) rfl), by decide, by decide +kernel⟩
theorem Y_X9_index : z_Y yX9_index cX9_index 1 (some .int) 0 := ⟨(z_in 485 (by decide +kernel) rfl), (z_in 72 (by decide +kernel) rfl), by decide, by decide +kernel⟩
theorem Y_X0_indexByOrder : z_Y yX0_indexByOrder cX0_indexByOrder 3 (some .int) 1 := ⟨(z_in 489 (by decide +kernel) rfl), (z_in 77 (by decide +kernel) rfl), by decide, by decide +kernel⟩
theorem Y_X0_sortNotes : z_Y yX0_sortNotes cX0_sortNotes 4 none 1 := ⟨(z_in 493 (by decide +kernel) rfl), (z_in 77 (by decide +kernel) rfl), by decide, by decide +kernel⟩
theorem Y_X0_fillCiting : z_Y yX0_fillCiting cX0_fillCiting 3 none 1 := ⟨(z_in 497 (by decide +kernel) rfl), (z_in 77 (by decide +kernel) rfl), by decide, by decide +kernel⟩
theorem Y_X0_comesBefore : z_Y yX0_comesBefore cX0_comesBefore 4 (some .boolean) 3 := ⟨(z_in 506 (by decide +kernel) rfl), (z_in 77 (by decide +kernel) rfl), by decide, by decide +kernel⟩
theorem Y_X10_index : z_Y yX10_index cX10_index 1 (some .int) 0 := ⟨(z_in 1871 (by decide +kernel) rfl), (z_in 85 (by decide +kernel) rfl), by decide, by decide +kernel⟩
theorem Y_X10_indexNow : z_Y yX10_indexNow cX10_indexNow 4 (some .int) 0 := ⟨(z_in 1875 (by decide +kernel) rfl), (z_in 85 (by decide +kernel) rfl), by decide, by decide +kernel⟩
theorem Y_X9_indexByCounts : z_Y yX9_indexByCounts cX9_indexByCounts 1 (some .int) 0 := ⟨(z_in 510 (by decide +kernel) rfl), (z_in 72 (by decide +kernel) rfl), by decide, by decide +kernel⟩
theorem Y_X0_indexByTally : z_Y yX0_indexByTally cX0_indexByTally 4 (some .int) 1 := ⟨(z_in 514 (by decide +kernel) rfl), (z_in 77 (by decide +kernel) rfl), by decide, by decide +kernel⟩
theorem Y_X10_indexByCounts : z_Y yX10_indexByCounts cX10_indexByCounts 1 (some .int) 0 := ⟨(z_in 1879 (by decide +kernel) rfl), (z_in 85 (by decide +kernel) rfl), by decide, by decide +kernel⟩
theorem Y_L_noteByCitations : z_YH yL_noteByCitations cL_noteByCitations 4 (some .int) [(0, 9, 12, 20)] 3 := ⟨(z_in 979 (by decide +kernel) rfl), (z_in 71 (by decide +kernel) rfl), by decide, by decide +kernel⟩
theorem Y_X9_noteByCitations : z_Y yX9_noteByCitations cX9_noteByCitations 2 (some .int) 1 := ⟨(z_in 983 (by decide +kernel) rfl), (z_in 72 (by decide +kernel) rfl), by decide, by decide +kernel⟩
theorem Y_X0_noteAt : z_Y yX0_noteAt cX0_noteAt 3 (some .int) 2 := ⟨(z_in 988 (by decide +kernel) rfl), (z_in 77 (by decide +kernel) rfl), by decide, by decide +kernel⟩
theorem Y_X10_noteByCitations : z_Y yX10_noteByCitations cX10_noteByCitations 5 (some .int) 1 := ⟨(z_in 1883 (by decide +kernel) rfl), (z_in 85 (by decide +kernel) rfl), by decide, by decide +kernel⟩
theorem Y_X10_isAhead : z_Y yX10_isAhead cX10_isAhead 3 (some .boolean) 2 := ⟨(z_in 1887 (by decide +kernel) rfl), (z_in 85 (by decide +kernel) rfl), by decide, by decide +kernel⟩
theorem Y_L_setCurrent : z_YH yL_setCurrent cL_setCurrent 5 (some .int) [(0, 10, 13, 13)] 4 := ⟨(z_in 991 (by decide +kernel) rfl), (z_in 71 (by decide +kernel) rfl), by decide, by decide +kernel⟩
theorem Y_X9_setCurrent : z_Y yX9_setCurrent cX9_setCurrent 3 (some .int) 2 := ⟨(z_in 995 (by decide +kernel) rfl), (z_in 72 (by decide +kernel) rfl), by decide, by decide +kernel⟩
theorem Y_X10_setCurrent : z_Y yX10_setCurrent cX10_setCurrent 4 (some .int) 2 := ⟨(z_in 1891 (by decide +kernel) rfl), (z_in 85 (by decide +kernel) rfl), by decide, by decide +kernel⟩
theorem Y_L_setQuota : z_YH yL_setQuota cL_setQuota 5 (some .int) [(0, 10, 13, 13)] 4 := ⟨(z_in 998 (by decide +kernel) rfl), (z_in 71 (by decide +kernel) rfl), by decide, by decide +kernel⟩
theorem Y_X9_setQuota : z_Y yX9_setQuota cX9_setQuota 3 (some .int) 2 := ⟨(z_in 1002 (by decide +kernel) rfl), (z_in 72 (by decide +kernel) rfl), by decide, by decide +kernel⟩
theorem Y_X10_setQuota : z_Y yX10_setQuota cX10_setQuota 4 (some .int) 2 := ⟨(z_in 1895 (by decide +kernel) rfl), (z_in 85 (by decide +kernel) rfl), by decide, by decide +kernel⟩
theorem Y_L_current : z_YH yL_current cL_current 4 (some .int) [(0, 9, 12, 13)] 3 := ⟨(z_in 1005 (by decide +kernel) rfl), (z_in 71 (by decide +kernel) rfl), by decide, by decide +kernel⟩
theorem Y_X9_current : z_Y yX9_current cX9_current 2 (some .int) 1 := ⟨(z_in 1009 (by decide +kernel) rfl), (z_in 72 (by decide +kernel) rfl), by decide, by decide +kernel⟩
theorem Y_X9_needPage : z_Y yX9_needPage cX9_needPage 1 none 1 := ⟨(z_in 1012 (by decide +kernel) rfl), (z_in 72 (by decide +kernel) rfl), by decide, by decide +kernel⟩
theorem Y_X10_current : z_Y yX10_current cX10_current 2 (some .int) 1 := ⟨(z_in 1899 (by decide +kernel) rfl), (z_in 85 (by decide +kernel) rfl), by decide, by decide +kernel⟩
theorem Y_X10_ofPage : z_Y yX10_ofPage cX10_ofPage 3 (some .int) 2 := ⟨(z_in 1903 (by decide +kernel) rfl), (z_in 85 (by decide +kernel) rfl), by decide, by decide +kernel⟩
theorem Y_L_quota : z_YH yL_quota cL_quota 4 (some .int) [(0, 9, 12, 13)] 3 := ⟨(z_in 1017 (by decide +kernel) rfl), (z_in 71 (by decide +kernel) rfl), by decide, by decide +kernel⟩
theorem Y_X9_quota : z_Y yX9_quota cX9_quota 2 (some .int) 1 := ⟨(z_in 1021 (by decide +kernel) rfl), (z_in 72 (by decide +kernel) rfl), by decide, by decide +kernel⟩
theorem Y_X10_quota : z_Y yX10_quota cX10_quota 2 (some .int) 1 := ⟨(z_in 1907 (by decide +kernel) rfl), (z_in 85 (by decide +kernel) rfl), by decide, by decide +kernel⟩
theorem Y_L_room : z_YH yL_room cL_room 4 (some .int) [(0, 9, 12, 13)] 3 := ⟨(z_in 1024 (by decide +kernel) rfl), (z_in 71 (by decide +kernel) rfl), by decide, by decide +kernel⟩
theorem Y_X9_room : z_Y yX9_room cX9_room 2 (some .int) 1 := ⟨(z_in 1028 (by decide +kernel) rfl), (z_in 72 (by decide +kernel) rfl), by decide, by decide +kernel⟩
theorem Y_X10_room : z_Y yX10_room cX10_room 2 (some .int) 1 := ⟨(z_in 1911 (by decide +kernel) rfl), (z_in 85 (by decide +kernel) rfl), by decide, by decide +kernel⟩
theorem Y_X10_roomOn : z_Y yX10_roomOn cX10_roomOn 3 (some .int) 1 := ⟨(z_in 1915 (by decide +kernel) rfl), (z_in 85 (by decide +kernel) rfl), by decide, by decide +kernel⟩
theorem Y_X10_seasonNow : z_Y yX10_seasonNow cX10_seasonNow 1 (some .int) 0 := ⟨(z_in 1919 (by decide +kernel) rfl), (z_in 85 (by decide +kernel) rfl), by decide, by decide +kernel⟩
theorem Y_L_floatingOn : z_YH yL_floatingOn cL_floatingOn 4 (some .int) [(0, 9, 12, 13)] 3 := ⟨(z_in 1032 (by decide +kernel) rfl), (z_in 71 (by decide +kernel) rfl), by decide, by decide +kernel⟩
theorem Y_X9_floatingOn : z_Y yX9_floatingOn cX9_floatingOn 2 (some .int) 1 := ⟨(z_in 1036 (by decide +kernel) rfl), (z_in 72 (by decide +kernel) rfl), by decide, by decide +kernel⟩
theorem Y_X7_countFloatingOn : z_Y yX7_countFloatingOn cX7_countFloatingOn 4 (some .int) 1 := ⟨(z_in 1040 (by decide +kernel) rfl), (z_in 73 (by decide +kernel) rfl), by decide, by decide +kernel⟩
theorem Y_X10_floatingOn : z_Y yX10_floatingOn cX10_floatingOn 2 (some .int) 1 := ⟨(z_in 1923 (by decide +kernel) rfl), (z_in 85 (by decide +kernel) rfl), by decide, by decide +kernel⟩
theorem Y_X10_those : z_Y yX10_those cX10_those 4 (some .int) 1 := ⟨(z_in 1927 (by decide +kernel) rfl), (z_in 85 (by decide +kernel) rfl), by decide, by decide +kernel⟩
theorem Y_X10_onPage : z_Y yX10_onPage cX10_onPage 5 (some .int) 2 := ⟨(z_in 1931 (by decide +kernel) rfl), (z_in 85 (by decide +kernel) rfl), by decide, by decide +kernel⟩
theorem Y_L_addNet : z_YH yL_addNet cL_addNet 6 (some .int) [(0, 12, 15, 13), (0, 12, 19, 15)] 5 := ⟨(z_in 1043 (by decide +kernel) rfl), (z_in 71 (by decide +kernel) rfl), by decide, by decide +kernel⟩
theorem Y_X9_addNet : z_Y yX9_addNet cX9_addNet 4 (some .int) 3 := ⟨(z_in 1047 (by decide +kernel) rfl), (z_in 72 (by decide +kernel) rfl), by decide, by decide +kernel⟩
theorem Y_X10_addNet : z_Y yX10_addNet cX10_addNet 5 (some .int) 3 := ⟨(z_in 1935 (by decide +kernel) rfl), (z_in 85 (by decide +kernel) rfl), by decide, by decide +kernel⟩
theorem Y_L_removeNet : z_YH yL_removeNet cL_removeNet 4 (some .int) [(0, 9, 12, 77)] 3 := ⟨(z_in 1050 (by decide +kernel) rfl), (z_in 71 (by decide +kernel) rfl), by decide, by decide +kernel⟩
theorem Y_X9_removeNet : z_Y yX9_removeNet cX9_removeNet 2 (some .int) 1 := ⟨(z_in 1075 (by decide +kernel) rfl), (z_in 72 (by decide +kernel) rfl), by decide, by decide +kernel⟩
theorem Y_X10_removeNet : z_Y yX10_removeNet cX10_removeNet 3 (some .int) 1 := ⟨(z_in 1939 (by decide +kernel) rfl), (z_in 85 (by decide +kernel) rfl), by decide, by decide +kernel⟩
theorem Y_X10_isNet : z_Y yX10_isNet cX10_isNet 2 (some .boolean) 1 := ⟨(z_in 1943 (by decide +kernel) rfl), (z_in 85 (by decide +kernel) rfl), by decide, by decide +kernel⟩
theorem Y_L_haul : z_YH yL_haul cL_haul 4 (some .int) [(0, 9, 12, 77), (0, 9, 15, 15)] 3 := ⟨(z_in 1078 (by decide +kernel) rfl), (z_in 71 (by decide +kernel) rfl), by decide, by decide +kernel⟩
theorem Y_X9_haul : z_Y yX9_haul cX9_haul 2 (some .int) 1 := ⟨(z_in 1082 (by decide +kernel) rfl), (z_in 72 (by decide +kernel) rfl), by decide, by decide +kernel⟩
theorem Y_X10_haul : z_Y yX10_haul cX10_haul 4 (some .int) 1 := ⟨(z_in 1947 (by decide +kernel) rfl), (z_in 85 (by decide +kernel) rfl), by decide, by decide +kernel⟩
theorem Y_X10_by : z_Y yX10_by cX10_by 3 (some .int) 2 := ⟨(z_in 1951 (by decide +kernel) rfl), (z_in 85 (by decide +kernel) rfl), by decide, by decide +kernel⟩
theorem Y_X10_catches : z_Y yX10_catches cX10_catches 6 (some .int) 1 := ⟨(z_in 1955 (by decide +kernel) rfl), (z_in 85 (by decide +kernel) rfl), by decide, by decide +kernel⟩
theorem Y_X10_isCovered : z_Y yX10_isCovered cX10_isCovered 3 (some .boolean) 2 := ⟨(z_in 1959 (by decide +kernel) rfl), (z_in 85 (by decide +kernel) rfl), by decide, by decide +kernel⟩
theorem Y_X9_netCount : z_Y yX9_netCount cX9_netCount 1 (some .int) 0 := ⟨(z_in 519 (by decide +kernel) rfl), (z_in 72 (by decide +kernel) rfl), by decide, by decide +kernel⟩
theorem Y_X10_netCount : z_Y yX10_netCount cX10_netCount 1 (some .int) 0 := ⟨(z_in 1963 (by decide +kernel) rfl), (z_in 85 (by decide +kernel) rfl), by decide, by decide +kernel⟩
theorem Y_L_covers : z_YH yL_covers cL_covers 5 (some .int) [(0, 17, 20, 77), (0, 17, 24, 13)] 4 := ⟨(z_in 1085 (by decide +kernel) rfl), (z_in 71 (by decide +kernel) rfl), by decide, by decide +kernel⟩
theorem Y_X9_covers : z_Y yX9_covers cX9_covers 3 (some .boolean) 2 := ⟨(z_in 1089 (by decide +kernel) rfl), (z_in 72 (by decide +kernel) rfl), by decide, by decide +kernel⟩
theorem Y_X9_needNet : z_Y yX9_needNet cX9_needNet 2 none 1 := ⟨(z_in 1093 (by decide +kernel) rfl), (z_in 72 (by decide +kernel) rfl), by decide, by decide +kernel⟩
theorem Y_X10_covers : z_Y yX10_covers cX10_covers 3 (some .boolean) 2 := ⟨(z_in 1967 (by decide +kernel) rfl), (z_in 85 (by decide +kernel) rfl), by decide, by decide +kernel⟩
theorem Y_L_catchSize : z_YH yL_catchSize cL_catchSize 4 (some .int) [(0, 9, 12, 77)] 3 := ⟨(z_in 1098 (by decide +kernel) rfl), (z_in 71 (by decide +kernel) rfl), by decide, by decide +kernel⟩
theorem Y_X9_catchSize : z_Y yX9_catchSize cX9_catchSize 2 (some .int) 1 := ⟨(z_in 1102 (by decide +kernel) rfl), (z_in 72 (by decide +kernel) rfl), by decide, by decide +kernel⟩
theorem Y_X10_catchSize : z_Y yX10_catchSize cX10_catchSize 2 (some .int) 1 := ⟨(z_in 1971 (by decide +kernel) rfl), (z_in 85 (by decide +kernel) rfl), by decide, by decide +kernel⟩
theorem Y_L_bestNet : z_YH yL_bestNet cL_bestNet 3 (some .int) [(0, 8, 11, 20)] 2 := ⟨(z_in 1107 (by decide +kernel) rfl), (z_in 71 (by decide +kernel) rfl), by decide, by decide +kernel⟩
theorem Y_X9_bestNet : z_Y yX9_bestNet cX9_bestNet 2 (some .int) 0 := ⟨(z_in 1111 (by decide +kernel) rfl), (z_in 72 (by decide +kernel) rfl), by decide, by decide +kernel⟩
theorem Y_X7_heaviestNet : z_Y yX7_heaviestNet cX7_heaviestNet 5 (some .int) 0 := ⟨(z_in 1115 (by decide +kernel) rfl), (z_in 73 (by decide +kernel) rfl), by decide, by decide +kernel⟩
theorem Y_X10_bestNet : z_Y yX10_bestNet cX10_bestNet 3 (some .int) 0 := ⟨(z_in 1975 (by decide +kernel) rfl), (z_in 85 (by decide +kernel) rfl), by decide, by decide +kernel⟩
theorem Y_X10_heavy : z_Y yX10_heavy cX10_heavy 4 (some .int) 1 := ⟨(z_in 1979 (by decide +kernel) rfl), (z_in 85 (by decide +kernel) rfl), by decide, by decide +kernel⟩
theorem Y_L_land : z_YH yL_land cL_land 3 (some .int) [(0, 8, 11, 15)] 2 := ⟨(z_in 1121 (by decide +kernel) rfl), (z_in 71 (by decide +kernel) rfl), by decide, by decide +kernel⟩
theorem Y_X9_land : z_Y yX9_land cX9_land 1 (some .int) 0 := ⟨(z_in 1125 (by decide +kernel) rfl), (z_in 72 (by decide +kernel) rfl), by decide, by decide +kernel⟩
theorem Y_X10_land : z_Y yX10_land cX10_land 5 (some .int) 0 := ⟨(z_in 1983 (by decide +kernel) rfl), (z_in 85 (by decide +kernel) rfl), by decide, by decide +kernel⟩
theorem Y_X10_landing : z_Y yX10_landing cX10_landing 3 (some .int) 0 := ⟨(z_in 1987 (by decide +kernel) rfl), (z_in 85 (by decide +kernel) rfl), by decide, by decide +kernel⟩
theorem Y_X10_choose : z_Y yX10_choose cX10_choose 7 (some .int) 1 := ⟨(z_in 1991 (by decide +kernel) rfl), (z_in 85 (by decide +kernel) rfl), by decide, by decide +kernel⟩
theorem Y_L_free : z_YH yL_free cL_free 4 (some .int) [(0, 9, 12, 20), (0, 9, 15, 15)] 3 := ⟨(z_in 1128 (by decide +kernel) rfl), (z_in 71 (by decide +kernel) rfl), by decide, by decide +kernel⟩
theorem Y_X9_free : z_Y yX9_free cX9_free 2 (some .int) 1 := ⟨(z_in 1132 (by decide +kernel) rfl), (z_in 72 (by decide +kernel) rfl), by decide, by decide +kernel⟩
theorem Y_X10_free : z_Y yX10_free cX10_free 2 (some .int) 1 := ⟨(z_in 1995 (by decide +kernel) rfl), (z_in 85 (by decide +kernel) rfl), by decide, by decide +kernel⟩
theorem Y_X9_heldCount : z_Y yX9_heldCount cX9_heldCount 1 (some .int) 0 := ⟨(z_in 523 (by decide +kernel) rfl), (z_in 72 (by decide +kernel) rfl), by decide, by decide +kernel⟩
theorem Y_X10_heldCount : z_Y yX10_heldCount cX10_heldCount 1 (some .int) 0 := ⟨(z_in 1999 (by decide +kernel) rfl), (z_in 85 (by decide +kernel) rfl), by decide, by decide +kernel⟩
theorem Y_X9_bestLanding : z_Y yX9_bestLanding cX9_bestLanding 1 (some .int) 0 := ⟨(z_in 537 (by decide +kernel) rfl), (z_in 72 (by decide +kernel) rfl), by decide, by decide +kernel⟩
theorem Y_X10_bestLanding : z_Y yX10_bestLanding cX10_bestLanding 1 (some .int) 0 := ⟨(z_in 2003 (by decide +kernel) rfl), (z_in 85 (by decide +kernel) rfl), by decide, by decide +kernel⟩
theorem Y_X9_bestLandingBySets : z_Y yX9_bestLandingBySets cX9_bestLandingBySets 1 (some .int) 0 := ⟨(z_in 583 (by decide +kernel) rfl), (z_in 72 (by decide +kernel) rfl), by decide, by decide +kernel⟩
theorem Y_X6_heaviestSet : z_Y yX6_heaviestSet cX6_heaviestSet 5 (some .int) 1 := ⟨(z_in 587 (by decide +kernel) rfl), (z_in 76 (by decide +kernel) rfl), by decide, by decide +kernel⟩
theorem Y_X6_fits : z_Y yX6_fits cX6_fits 4 (some .boolean) 2 := ⟨(z_in 591 (by decide +kernel) rfl), (z_in 76 (by decide +kernel) rfl), by decide, by decide +kernel⟩
theorem Y_X10_bestLandingBySets : z_Y yX10_bestLandingBySets cX10_bestLandingBySets 1 (some .int) 0 := ⟨(z_in 2007 (by decide +kernel) rfl), (z_in 85 (by decide +kernel) rfl), by decide, by decide +kernel⟩
theorem Y_L_wouldLand : z_YH yL_wouldLand cL_wouldLand 4 (some .int) [(0, 16, 19, 20)] 3 := ⟨(z_in 1135 (by decide +kernel) rfl), (z_in 71 (by decide +kernel) rfl), by decide, by decide +kernel⟩
theorem Y_X9_wouldLand : z_Y yX9_wouldLand cX9_wouldLand 2 (some .boolean) 1 := ⟨(z_in 1139 (by decide +kernel) rfl), (z_in 72 (by decide +kernel) rfl), by decide, by decide +kernel⟩
theorem Y_X10_wouldLand : z_Y yX10_wouldLand cX10_wouldLand 2 (some .boolean) 1 := ⟨(z_in 2011 (by decide +kernel) rfl), (z_in 85 (by decide +kernel) rfl), by decide, by decide +kernel⟩
theorem Y_L_buyLicence : z_YH yL_buyLicence cL_buyLicence 3 (some .int) [(0, 8, 11, 15)] 2 := ⟨(z_in 1142 (by decide +kernel) rfl), (z_in 71 (by decide +kernel) rfl), by decide, by decide +kernel⟩
theorem Y_X9_buyLicence : z_Y yX9_buyLicence cX9_buyLicence 1 (some .int) 0 := ⟨(z_in 1146 (by decide +kernel) rfl), (z_in 72 (by decide +kernel) rfl), by decide, by decide +kernel⟩
theorem Y_X10_buyLicence : z_Y yX10_buyLicence cX10_buyLicence 2 (some .int) 0 := ⟨(z_in 2015 (by decide +kernel) rfl), (z_in 85 (by decide +kernel) rfl), by decide, by decide +kernel⟩
theorem Y_X10_fee : z_Y yX10_fee cX10_fee 1 (some .int) 1 := ⟨(z_in 2018 (by decide +kernel) rfl), (z_in 85 (by decide +kernel) rfl), by decide, by decide +kernel⟩
theorem Y_L_pass : z_YH yL_pass cL_pass 4 (some .int) [(0, 9, 12, 13)] 3 := ⟨(z_in 1149 (by decide +kernel) rfl), (z_in 71 (by decide +kernel) rfl), by decide, by decide +kernel⟩
theorem Y_X9_pass : z_Y yX9_pass cX9_pass 2 (some .int) 1 := ⟨(z_in 1153 (by decide +kernel) rfl), (z_in 72 (by decide +kernel) rfl), by decide, by decide +kernel⟩
theorem Y_X10_pass : z_Y yX10_pass cX10_pass 4 (some .int) 1 := ⟨(z_in 2022 (by decide +kernel) rfl), (z_in 85 (by decide +kernel) rfl), by decide, by decide +kernel⟩
theorem Y_X10_goes : z_Y yX10_goes cX10_goes 5 (some .int) 0 := ⟨(z_in 2026 (by decide +kernel) rfl), (z_in 85 (by decide +kernel) rfl), by decide, by decide +kernel⟩
theorem Y_X9_hasLicence : z_Y yX9_hasLicence cX9_hasLicence 1 (some .boolean) 0 := ⟨(z_in 596 (by decide +kernel) rfl), (z_in 72 (by decide +kernel) rfl), by decide, by decide +kernel⟩
theorem Y_X10_hasLicence : z_Y yX10_hasLicence cX10_hasLicence 1 (some .boolean) 0 := ⟨(z_in 2030 (by decide +kernel) rfl), (z_in 85 (by decide +kernel) rfl), by decide, by decide +kernel⟩
theorem Y_X9_day : z_Y yX9_day cX9_day 1 (some .int) 0 := ⟨(z_in 600 (by decide +kernel) rfl), (z_in 72 (by decide +kernel) rfl), by decide, by decide +kernel⟩
theorem Y_X10_day : z_Y yX10_day cX10_day 1 (some .int) 0 := ⟨(z_in 2034 (by decide +kernel) rfl), (z_in 85 (by decide +kernel) rfl), by decide, by decide +kernel⟩
theorem Y_X9_season : z_Y yX9_season cX9_season 1 (some .int) 0 := ⟨(z_in 604 (by decide +kernel) rfl), (z_in 72 (by decide +kernel) rfl), by decide, by decide +kernel⟩
theorem Y_X10_season : z_Y yX10_season cX10_season 1 (some .int) 0 := ⟨(z_in 2038 (by decide +kernel) rfl), (z_in 85 (by decide +kernel) rfl), by decide, by decide +kernel⟩
theorem Y_X9_coins : z_Y yX9_coins cX9_coins 1 (some .int) 0 := ⟨(z_in 609 (by decide +kernel) rfl), (z_in 72 (by decide +kernel) rfl), by decide, by decide +kernel⟩
theorem Y_X10_coins : z_Y yX10_coins cX10_coins 1 (some .int) 0 := ⟨(z_in 2042 (by decide +kernel) rfl), (z_in 85 (by decide +kernel) rfl), by decide, by decide +kernel⟩
theorem Y_X9_caught : z_Y yX9_caught cX9_caught 1 (some .int) 0 := ⟨(z_in 613 (by decide +kernel) rfl), (z_in 72 (by decide +kernel) rfl), by decide, by decide +kernel⟩
theorem Y_X10_caught : z_Y yX10_caught cX10_caught 1 (some .int) 0 := ⟨(z_in 2046 (by decide +kernel) rfl), (z_in 85 (by decide +kernel) rfl), by decide, by decide +kernel⟩
theorem Y_X9_landed : z_Y yX9_landed cX9_landed 1 (some .int) 0 := ⟨(z_in 617 (by decide +kernel) rfl), (z_in 72 (by decide +kernel) rfl), by decide, by decide +kernel⟩
theorem Y_X10_landed : z_Y yX10_landed cX10_landed 1 (some .int) 0 := ⟨(z_in 2050 (by decide +kernel) rfl), (z_in 85 (by decide +kernel) rfl), by decide, by decide +kernel⟩
theorem Y_X9_returned : z_Y yX9_returned cX9_returned 1 (some .int) 0 := ⟨(z_in 621 (by decide +kernel) rfl), (z_in 72 (by decide +kernel) rfl), by decide, by decide +kernel⟩
theorem Y_X10_returned : z_Y yX10_returned cX10_returned 1 (some .int) 0 := ⟨(z_in 2054 (by decide +kernel) rfl), (z_in 85 (by decide +kernel) rfl), by decide, by decide +kernel⟩
theorem Y_L_meanWeight : z_YH yL_meanWeight cL_meanWeight 3 (some .int) [(0, 7, 10, 112)] 2 := ⟨(z_in 1156 (by decide +kernel) rfl), (z_in 71 (by decide +kernel) rfl), by decide, by decide +kernel⟩
theorem Y_X9_meanWeight : z_Y yX9_meanWeight cX9_meanWeight 2 (some .double) 0 := ⟨(z_in 1174 (by decide +kernel) rfl), (z_in 72 (by decide +kernel) rfl), by decide, by decide +kernel⟩
theorem Y_X10_meanWeight : z_Y yX10_meanWeight cX10_meanWeight 2 (some .double) 0 := ⟨(z_in 2058 (by decide +kernel) rfl), (z_in 85 (by decide +kernel) rfl), by decide, by decide +kernel⟩
theorem Y_L_landedShare : z_YH yL_landedShare cL_landedShare 3 (some .int) [(0, 8, 11, 112)] 2 := ⟨(z_in 1181 (by decide +kernel) rfl), (z_in 71 (by decide +kernel) rfl), by decide, by decide +kernel⟩
theorem Y_X9_landedShare : z_Y yX9_landedShare cX9_landedShare 2 (some .float) 0 := ⟨(z_in 1185 (by decide +kernel) rfl), (z_in 72 (by decide +kernel) rfl), by decide, by decide +kernel⟩
theorem Y_X10_landedShare : z_Y yX10_landedShare cX10_landedShare 1 (some .float) 0 := ⟨(z_in 2062 (by decide +kernel) rfl), (z_in 85 (by decide +kernel) rfl), by decide, by decide +kernel⟩
theorem Y_L_feed : z_YH yL_feed cL_feed 4 (some .int) [(0, 9, 12, 122)] 3 := ⟨(z_in 1189 (by decide +kernel) rfl), (z_in 71 (by decide +kernel) rfl), by decide, by decide +kernel⟩
theorem Y_X9_feed : z_Y yX9_feed cX9_feed 2 (some .int) 1 := ⟨(z_in 1194 (by decide +kernel) rfl), (z_in 72 (by decide +kernel) rfl), by decide, by decide +kernel⟩
theorem Y_X8_isFull : z_Y yX8_isFull cX8_isFull 1 (some .boolean) 0 := ⟨(z_in 1198 (by decide +kernel) rfl), (z_in 79 (by decide +kernel) rfl), by decide, by decide +kernel⟩
theorem Y_X8_append : z_Y yX8_append cX8_append 2 none 1 := ⟨(z_in 1218 (by decide +kernel) rfl), (z_in 79 (by decide +kernel) rfl), by decide, by decide +kernel⟩
theorem Y_X10_feed : z_Y yX10_feed cX10_feed 2 (some .int) 1 := ⟨(z_in 2066 (by decide +kernel) rfl), (z_in 85 (by decide +kernel) rfl), by decide, by decide +kernel⟩
theorem Y_L_execute : z_YH yL_execute cL_execute 3 (some .int) [(0, 8, 11, 13), (0, 8, 14, 15)] 2 := ⟨(z_in 1222 (by decide +kernel) rfl), (z_in 71 (by decide +kernel) rfl), by decide, by decide +kernel⟩
theorem Y_X9_execute : z_Y yX9_execute cX9_execute 4 (some .int) 0 := ⟨(z_in 1226 (by decide +kernel) rfl), (z_in 72 (by decide +kernel) rfl), by decide, by decide +kernel⟩
theorem Y_X8_parse : z_Y yX8_parse cX8_parse 3 (some .boolean) 0 := ⟨(z_in 1230 (by decide +kernel) rfl), (z_in 79 (by decide +kernel) rfl), by decide, by decide +kernel⟩
theorem Y_X8_parseCommand : z_Y yX8_parseCommand cX8_parseCommand 4 (some .boolean) 1 := ⟨(z_in 1234 (by decide +kernel) rfl), (z_in 79 (by decide +kernel) rfl), by decide, by decide +kernel⟩
theorem Y_X8_templateOf : z_Y yX8_templateOf cX8_templateOf 1 (some (.object "java/lang/String")) 1 := ⟨(z_in 1237 (by decide +kernel) rfl), (z_in 79 (by decide +kernel) rfl), by decide, by decide +kernel⟩
theorem Y_X8_matches : z_Y yX8_matches cX8_matches 4 (some .boolean) 2 := ⟨(z_in 1253 (by decide +kernel) rfl), (z_in 79 (by decide +kernel) rfl), by decide, by decide +kernel⟩
theorem Y_J0_length_8abf5 : z_Y yJ0_length_8abf5 cJ0_length_8abf5 1 (some .int) 0 := ⟨(z_in 1258 (by decide +kernel) rfl), (z_in 83 (by decide +kernel) rfl), by decide, by decide +kernel⟩
theorem Y_J0_coder_7d493 : z_Y yJ0_coder_7d493 cJ0_coder_7d493 1 (some .byte) 0 := ⟨(z_in 1262 (by decide +kernel) rfl), (z_in 83 (by decide +kernel) rfl), by decide, by decide +kernel⟩
theorem Y_J0_charAt_5068e : z_Y yJ0_charAt_5068e cJ0_charAt_5068e 2 (some .char) 1 := ⟨(z_in 1267 (by decide +kernel) rfl), (z_in 83 (by decide +kernel) rfl), by decide, by decide +kernel⟩
theorem Y_J0_isLatin1_aae02 : z_Y yJ0_isLatin1_aae02 cJ0_isLatin1_aae02 1 (some .boolean) 0 := ⟨(z_in 1271 (by decide +kernel) rfl), (z_in 83 (by decide +kernel) rfl), by decide, by decide +kernel⟩
theorem Y_J1_charAt_3b067 : z_Y yJ1_charAt_3b067 cJ1_charAt_3b067 2 (some .char) 2 := ⟨(z_in 1274 (by decide +kernel) rfl), (z_in 102 (by decide +kernel) rfl), by decide, by decide +kernel⟩
theorem Y_X8_matchesPart : z_Y yX8_matchesPart cX8_matchesPart 2 (some .boolean) 1 := ⟨(z_in 1305 (by decide +kernel) rfl), (z_in 79 (by decide +kernel) rfl), by decide, by decide +kernel⟩
theorem Y_X8_matchesNumber : z_Y yX8_matchesNumber cX8_matchesNumber 2 (some .boolean) 0 := ⟨(z_in 1309 (by decide +kernel) rfl), (z_in 79 (by decide +kernel) rfl), by decide, by decide +kernel⟩
theorem Y_X8_isDigitNext : z_Y yX8_isDigitNext cX8_isDigitNext 1 (some .boolean) 0 := ⟨(z_in 1313 (by decide +kernel) rfl), (z_in 79 (by decide +kernel) rfl), by decide, by decide +kernel⟩
theorem Y_X8_takeDigit : z_Y yX8_takeDigit cX8_takeDigit 2 (some .int) 0 := ⟨(z_in 1317 (by decide +kernel) rfl), (z_in 79 (by decide +kernel) rfl), by decide, by decide +kernel⟩
theorem Y_X8_addValue : z_Y yX8_addValue cX8_addValue 2 none 1 := ⟨(z_in 1321 (by decide +kernel) rfl), (z_in 79 (by decide +kernel) rfl), by decide, by decide +kernel⟩
theorem Y_X8_matchesDigit : z_Y yX8_matchesDigit cX8_matchesDigit 2 (some .boolean) 1 := ⟨(z_in 1325 (by decide +kernel) rfl), (z_in 79 (by decide +kernel) rfl), by decide, by decide +kernel⟩
theorem Y_X8_takes : z_Y yX8_takes cX8_takes 2 (some .boolean) 1 := ⟨(z_in 1329 (by decide +kernel) rfl), (z_in 79 (by decide +kernel) rfl), by decide, by decide +kernel⟩
theorem Y_X8_addCommand : z_Y yX8_addCommand cX8_addCommand 2 none 1 := ⟨(z_in 1333 (by decide +kernel) rfl), (z_in 79 (by decide +kernel) rfl), by decide, by decide +kernel⟩
theorem Y_X8_empty : z_Y yX8_empty cX8_empty 1 none 0 := ⟨(z_in 1338 (by decide +kernel) rfl), (z_in 79 (by decide +kernel) rfl), by decide, by decide +kernel⟩
theorem Y_X9_runCommand : z_Y yX9_runCommand cX9_runCommand 7 (some .int) 1 := ⟨(z_in 1343 (by decide +kernel) rfl), (z_in 72 (by decide +kernel) rfl), by decide, by decide +kernel⟩
theorem Y_X10_execute : z_Y yX10_execute cX10_execute 4 (some .int) 0 := ⟨(z_in 2070 (by decide +kernel) rfl), (z_in 85 (by decide +kernel) rfl), by decide, by decide +kernel⟩
theorem Y_X10_isText : z_Y yX10_isText cX10_isText 1 (some .boolean) 0 := ⟨(z_in 2074 (by decide +kernel) rfl), (z_in 85 (by decide +kernel) rfl), by decide, by decide +kernel⟩
theorem Y_X10_commandHere : z_Y yX10_commandHere cX10_commandHere 2 (some .boolean) 0 := ⟨(z_in 2078 (by decide +kernel) rfl), (z_in 85 (by decide +kernel) rfl), by decide, by decide +kernel⟩
theorem Y_X10_skips : z_Y yX10_skips cX10_skips 2 (some .boolean) 1 := ⟨(z_in 2082 (by decide +kernel) rfl), (z_in 85 (by decide +kernel) rfl), by decide, by decide +kernel⟩
theorem Y_X10_here : z_Y yX10_here cX10_here 1 (some .int) 0 := ⟨(z_in 2086 (by decide +kernel) rfl), (z_in 85 (by decide +kernel) rfl), by decide, by decide +kernel⟩
theorem Y_X10_withC : z_Y yX10_withC cX10_withC 2 (some .boolean) 1 := ⟨(z_in 2090 (by decide +kernel) rfl), (z_in 85 (by decide +kernel) rfl), by decide, by decide +kernel⟩
theorem Y_X10_isWord : z_Y yX10_isWord cX10_isWord 4 (some .boolean) 2 := ⟨(z_in 2095 (by decide +kernel) rfl), (z_in 85 (by decide +kernel) rfl), by decide, by decide +kernel⟩
theorem Y_X10_figures : z_Y yX10_figures cX10_figures 4 (some .boolean) 3 := ⟨(z_in 2101 (by decide +kernel) rfl), (z_in 85 (by decide +kernel) rfl), by decide, by decide +kernel⟩
theorem Y_X10_digits : z_Y yX10_digits cX10_digits 4 (some .boolean) 2 := ⟨(z_in 2105 (by decide +kernel) rfl), (z_in 85 (by decide +kernel) rfl), by decide, by decide +kernel⟩
theorem Y_X10_signed : z_Y yX10_signed cX10_signed 3 (some .boolean) 1 := ⟨(z_in 2111 (by decide +kernel) rfl), (z_in 85 (by decide +kernel) rfl), by decide, by decide +kernel⟩
theorem Y_X10_carries : z_Y yX10_carries cX10_carries 4 (some .int) 1 := ⟨(z_in 2123 (by decide +kernel) rfl), (z_in 85 (by decide +kernel) rfl), by decide, by decide +kernel⟩
theorem Y_X10_deniesText : z_Y yX10_deniesText cX10_deniesText 3 (some .int) 1 := ⟨(z_in 2139 (by decide +kernel) rfl), (z_in 85 (by decide +kernel) rfl), by decide, by decide +kernel⟩
theorem Y_L_faultPosition : z_YH yL_faultPosition cL_faultPosition 3 (some .int) [(0, 8, 11, 20)] 2 := ⟨(z_in 1347 (by decide +kernel) rfl), (z_in 71 (by decide +kernel) rfl), by decide, by decide +kernel⟩
theorem Y_X9_faultPosition : z_Y yX9_faultPosition cX9_faultPosition 1 (some .int) 0 := ⟨(z_in 1351 (by decide +kernel) rfl), (z_in 72 (by decide +kernel) rfl), by decide, by decide +kernel⟩
theorem Y_X10_faultPosition : z_Y yX10_faultPosition cX10_faultPosition 1 (some .int) 0 := ⟨(z_in 2143 (by decide +kernel) rfl), (z_in 85 (by decide +kernel) rfl), by decide, by decide +kernel⟩
theorem Y_L_writeNote : z_YH yL_writeNote cL_writeNote 4 (some .int) [(0, 9, 12, 20)] 3 := ⟨(z_in 1355 (by decide +kernel) rfl), (z_in 71 (by decide +kernel) rfl), by decide, by decide +kernel⟩
theorem Y_J4_setLength_d00df : z_Y yJ4_setLength_d00df cJ4_setLength_d00df 2 none 1 := ⟨(z_in 1363 (by decide +kernel) rfl), (z_in 82 (by decide +kernel) rfl), by decide, by decide +kernel⟩
theorem Y_J5_setLength_d00df : z_Y yJ5_setLength_d00df cJ5_setLength_d00df 2 none 1 := ⟨(z_in 1366 (by decide +kernel) rfl), (z_in 81 (by decide +kernel) rfl), by decide, by decide +kernel⟩
theorem Y_J5_ensureCapacityInternal_d00df : z_Y yJ5_ensureCapacityInternal_d00df cJ5_ensureCapacityInternal_d00df 3 none 1 := ⟨(z_in 1389 (by decide +kernel) rfl), (z_in 81 (by decide +kernel) rfl), by decide, by decide +kernel⟩
theorem Y_J5_newCapacity_0f7a4 : z_Y yJ5_newCapacity_0f7a4 cJ5_newCapacity_0f7a4 6 (some .int) 1 := ⟨(z_in 1393 (by decide +kernel) rfl), (z_in 81 (by decide +kernel) rfl), by decide, by decide +kernel⟩
theorem Y_J8_newLength_cabcc : z_Y yJ8_newLength_cabcc cJ8_newLength_cabcc 4 (some .int) 3 := ⟨(z_in 1396 (by decide +kernel) rfl), (z_in 105 (by decide +kernel) rfl), by decide, by decide +kernel⟩
theorem Y_J7_copyOf_9075b : z_Y yJ7_copyOf_9075b cJ7_copyOf_9075b 3 (some (.array .byte)) 2 := ⟨(z_in 1405 (by decide +kernel) rfl), (z_in 74 (by decide +kernel) rfl), by decide, by decide +kernel⟩
theorem Y_J5_isLatin1_aae02 : z_Y yJ5_isLatin1_aae02 cJ5_isLatin1_aae02 1 (some .boolean) 0 := ⟨(z_in 1419 (by decide +kernel) rfl), (z_in 81 (by decide +kernel) rfl), by decide, by decide +kernel⟩
theorem Y_J4_append_bf812 : z_Y yJ4_append_bf812 cJ4_append_bf812 2 (some (.object "java/lang/StringBuilder")) 1 := ⟨(z_in 1473 (by decide +kernel) rfl), (z_in 82 (by decide +kernel) rfl), by decide, by decide +kernel⟩
theorem Y_J5_append_c97b9 : z_Y yJ5_append_c97b9 cJ5_append_c97b9 4 (some (.object "java/lang/AbstractStringBuilder")) 1 := ⟨(z_in 1476 (by decide +kernel) rfl), (z_in 81 (by decide +kernel) rfl), by decide, by decide +kernel⟩
theorem Y_J6_stringSize_0f7a4 : z_Y yJ6_stringSize_0f7a4 cJ6_stringSize_0f7a4 4 (some .int) 1 := ⟨(z_in 1479 (by decide +kernel) rfl), (z_in 89 (by decide +kernel) rfl), by decide, by decide +kernel⟩
theorem Y_J6_getChars_ba4f3 : z_Y yJ6_getChars_ba4f3 cJ6_getChars_ba4f3 7 (some .int) 3 := ⟨(z_in 1482 (by decide +kernel) rfl), (z_in 89 (by decide +kernel) rfl), by decide, by decide +kernel⟩
theorem Y_J4_append_cf468 : z_Y yJ4_append_cf468 cJ4_append_cf468 2 (some (.object "java/lang/StringBuilder")) 1 := ⟨(z_in 1593 (by decide +kernel) rfl), (z_in 82 (by decide +kernel) rfl), by decide, by decide +kernel⟩
theorem Y_J5_append_3fe6f : z_Y yJ5_append_3fe6f cJ5_append_3fe6f 2 (some (.object "java/lang/AbstractStringBuilder")) 1 := ⟨(z_in 1596 (by decide +kernel) rfl), (z_in 81 (by decide +kernel) rfl), by decide, by decide +kernel⟩
theorem Y_J1_canEncode_fc78d : z_Y yJ1_canEncode_fc78d cJ1_canEncode_fc78d 1 (some .boolean) 1 := ⟨(z_in 1599 (by decide +kernel) rfl), (z_in 102 (by decide +kernel) rfl), by decide, by decide +kernel⟩
theorem Y_J4_length_8abf5 : z_Y yJ4_length_8abf5 cJ4_length_8abf5 1 (some .int) 0 := ⟨(z_in 1517 (by decide +kernel) rfl), (z_in 82 (by decide +kernel) rfl), by decide, by decide +kernel⟩
theorem Y_J5_length_8abf5 : z_Y yJ5_length_8abf5 cJ5_length_8abf5 1 (some .int) 0 := ⟨(z_in 1519 (by decide +kernel) rfl), (z_in 81 (by decide +kernel) rfl), by decide, by decide +kernel⟩
theorem Y_X10_writeNote : z_Y yX10_writeNote cX10_writeNote 3 (some .int) 1 := ⟨(z_in 2147 (by decide +kernel) rfl), (z_in 85 (by decide +kernel) rfl), by decide, by decide +kernel⟩
theorem Y_X10_writesNumber : z_Y yX10_writesNumber cX10_writesNumber 2 none 1 := ⟨(z_in 2151 (by decide +kernel) rfl), (z_in 85 (by decide +kernel) rfl), by decide, by decide +kernel⟩
theorem Y_X10_writes : z_Y yX10_writes cX10_writes 2 none 1 := ⟨(z_in 2155 (by decide +kernel) rfl), (z_in 85 (by decide +kernel) rfl), by decide, by decide +kernel⟩
theorem Y_X10_writesBehind : z_Y yX10_writesBehind cX10_writesBehind 3 none 2 := ⟨(z_in 2159 (by decide +kernel) rfl), (z_in 85 (by decide +kernel) rfl), by decide, by decide +kernel⟩
theorem Y_L_lineCharacter : z_YH yL_lineCharacter cL_lineCharacter 4 (some .int) [(0, 9, 12, 77)] 3 := ⟨(z_in 1606 (by decide +kernel) rfl), (z_in 71 (by decide +kernel) rfl), by decide, by decide +kernel⟩
theorem Y_X9_lineCharacter : z_Y yX9_lineCharacter cX9_lineCharacter 2 (some .char) 1 := ⟨(z_in 1610 (by decide +kernel) rfl), (z_in 72 (by decide +kernel) rfl), by decide, by decide +kernel⟩
theorem Y_J4_charAt_5068e : z_Y yJ4_charAt_5068e cJ4_charAt_5068e 2 (some .char) 1 := ⟨(z_in 1615 (by decide +kernel) rfl), (z_in 82 (by decide +kernel) rfl), by decide, by decide +kernel⟩
theorem Y_J5_charAt_5068e : z_Y yJ5_charAt_5068e cJ5_charAt_5068e 5 (some .char) 1 := ⟨(z_in 1618 (by decide +kernel) rfl), (z_in 81 (by decide +kernel) rfl), by decide, by decide +kernel⟩
theorem Y_X10_lineCharacter : z_Y yX10_lineCharacter cX10_lineCharacter 2 (some .char) 1 := ⟨(z_in 2163 (by decide +kernel) rfl), (z_in 85 (by decide +kernel) rfl), by decide, by decide +kernel⟩
theorem Y_L_denial : z_YH yL_denial cL_denial 3 (some .int) [(0, 8, 11, 20)] 2 := ⟨(z_in 1624 (by decide +kernel) rfl), (z_in 71 (by decide +kernel) rfl), by decide, by decide +kernel⟩
theorem Y_X9_denial : z_Y yX9_denial cX9_denial 1 (some .int) 0 := ⟨(z_in 1628 (by decide +kernel) rfl), (z_in 72 (by decide +kernel) rfl), by decide, by decide +kernel⟩
theorem Y_X9_needDenial : z_Y yX9_needDenial cX9_needDenial 1 none 0 := ⟨(z_in 1632 (by decide +kernel) rfl), (z_in 72 (by decide +kernel) rfl), by decide, by decide +kernel⟩
theorem Y_X10_denial : z_Y yX10_denial cX10_denial 1 (some .int) 0 := ⟨(z_in 2167 (by decide +kernel) rfl), (z_in 85 (by decide +kernel) rfl), by decide, by decide +kernel⟩
theorem Y_L_denialDetail : z_YH yL_denialDetail cL_denialDetail 3 (some .int) [(0, 8, 11, 20)] 2 := ⟨(z_in 1636 (by decide +kernel) rfl), (z_in 71 (by decide +kernel) rfl), by decide, by decide +kernel⟩
theorem Y_X9_denialDetail : z_Y yX9_denialDetail cX9_denialDetail 1 (some .int) 0 := ⟨(z_in 1640 (by decide +kernel) rfl), (z_in 72 (by decide +kernel) rfl), by decide, by decide +kernel⟩
theorem Y_X10_denialDetail : z_Y yX10_denialDetail cX10_denialDetail 1 (some .int) 0 := ⟨(z_in 2171 (by decide +kernel) rfl), (z_in 85 (by decide +kernel) rfl), by decide, by decide +kernel⟩
theorem Y_L_denialCause : z_YH yL_denialCause cL_denialCause 3 (some .int) [(0, 8, 11, 20)] 2 := ⟨(z_in 1643 (by decide +kernel) rfl), (z_in 71 (by decide +kernel) rfl), by decide, by decide +kernel⟩
theorem Y_X9_denialCause : z_Y yX9_denialCause cX9_denialCause 1 (some .int) 0 := ⟨(z_in 1647 (by decide +kernel) rfl), (z_in 72 (by decide +kernel) rfl), by decide, by decide +kernel⟩
theorem Y_X10_denialCause : z_Y yX10_denialCause cX10_denialCause 1 (some .int) 0 := ⟨(z_in 2175 (by decide +kernel) rfl), (z_in 85 (by decide +kernel) rfl), by decide, by decide +kernel⟩
theorem Y_L_undo : z_YH yL_undo cL_undo 3 (some .int) [(0, 8, 11, 122)] 2 := ⟨(z_in 1651 (by decide +kernel) rfl), (z_in 71 (by decide +kernel) rfl), by decide, by decide +kernel⟩
theorem Y_X9_undo : z_Y yX9_undo cX9_undo 1 (some .int) 0 := ⟨(z_in 1655 (by decide +kernel) rfl), (z_in 72 (by decide +kernel) rfl), by decide, by decide +kernel⟩
theorem Y_X4_takeBack : z_Y yX4_takeBack cX4_takeBack 4 none 1 := ⟨(z_in 1660 (by decide +kernel) rfl), (z_in 75 (by decide +kernel) rfl), by decide, by decide +kernel⟩
theorem Y_X10_undo : z_Y yX10_undo cX10_undo 1 (some .int) 0 := ⟨(z_in 2179 (by decide +kernel) rfl), (z_in 85 (by decide +kernel) rfl), by decide, by decide +kernel⟩
theorem Y_X9_undoCount : z_Y yX9_undoCount cX9_undoCount 1 (some .int) 0 := ⟨(z_in 625 (by decide +kernel) rfl), (z_in 72 (by decide +kernel) rfl), by decide, by decide +kernel⟩
theorem Y_X10_undoCount : z_Y yX10_undoCount cX10_undoCount 1 (some .int) 0 := ⟨(z_in 2183 (by decide +kernel) rfl), (z_in 85 (by decide +kernel) rfl), by decide, by decide +kernel⟩
theorem Y_X9_saveSnapshot : z_Y yX9_saveSnapshot cX9_saveSnapshot 1 (some .int) 0 := ⟨(z_in 629 (by decide +kernel) rfl), (z_in 72 (by decide +kernel) rfl), by decide, by decide +kernel⟩
theorem Y_X10_saveSnapshot : z_Y yX10_saveSnapshot cX10_saveSnapshot 1 (some .int) 0 := ⟨(z_in 2187 (by decide +kernel) rfl), (z_in 85 (by decide +kernel) rfl), by decide, by decide +kernel⟩
theorem Y_L_restoreSnapshot : z_YH yL_restoreSnapshot cL_restoreSnapshot 3 (some .int) [(0, 8, 11, 122)] 2 := ⟨(z_in 1663 (by decide +kernel) rfl), (z_in 71 (by decide +kernel) rfl), by decide, by decide +kernel⟩
theorem Y_X9_restoreSnapshot : z_Y yX9_restoreSnapshot cX9_restoreSnapshot 1 (some .int) 0 := ⟨(z_in 1667 (by decide +kernel) rfl), (z_in 72 (by decide +kernel) rfl), by decide, by decide +kernel⟩
theorem Y_X4_forget : z_Y yX4_forget cX4_forget 1 none 0 := ⟨(z_in 1672 (by decide +kernel) rfl), (z_in 75 (by decide +kernel) rfl), by decide, by decide +kernel⟩
theorem Y_X10_restoreSnapshot : z_Y yX10_restoreSnapshot cX10_restoreSnapshot 1 (some .int) 0 := ⟨(z_in 2191 (by decide +kernel) rfl), (z_in 85 (by decide +kernel) rfl), by decide, by decide +kernel⟩
theorem Y_J0_checkIndex_df160 : z_Y yJ0_checkIndex_df160 cJ0_checkIndex_df160 2 none 2 := ⟨(z_in 1277 (by decide +kernel) rfl), (z_in 83 (by decide +kernel) rfl), by decide, by decide +kernel⟩
theorem Y_J3_checkIndex_8e157 : z_Y yJ3_checkIndex_8e157 cJ3_checkIndex_8e157 3 (some .int) 3 := ⟨(z_in 1282 (by decide +kernel) rfl), (z_in 103 (by decide +kernel) rfl), by decide, by decide +kernel⟩
theorem k_J0_1059 : Cond.methodLink RJ0 1059 yJ3_checkIndex_8e157 ∈ z_ws ∧ Cond.static yJ3_checkIndex_8e157 ∈ z_ws := ⟨(z_in 1280 (by decide +kernel) rfl), (z_in 1281 (by decide +kernel) rfl)⟩
theorem gs_J0_1053 : Cond.fieldLink RJ0 1053 "jdk/internal/util/Preconditions" "SIOOBE_FORMATTER" "Ljava/util/function/BiFunction;" ∈ z_ws := (z_in 1278 (by decide +kernel) rfl)
theorem ic_0 : Int32.ofInt (0) = (0 : Int32) := by decide +kernel
theorem ic_1 : Int32.ofInt (1) = (1 : Int32) := by decide +kernel
theorem oi_X7_3 : Cond.methodLink RX7 3 Lib.objectInit ∈ z_ws ∧ Cond.instanceMethod Lib.objectInit ∈ z_ws ∧ Cond.code Lib.objectInit ⟨#[0xb1]⟩ 1 none ∈ z_ws := ⟨(z_in 119 (by decide +kernel) rfl), (z_in 112 (by decide +kernel) rfl), (z_in 113 (by decide +kernel) rfl)⟩
theorem bp_10 : (Int8.ofInt (10)).toInt32 = (10 : Int32) := by decide +kernel
theorem ac_int : Cond.arrayClass .int ∈ z_ws := (z_in 220 (by decide +kernel) rfl)
theorem uw_X7 : ∀ w ∈ u_ws RX7 TX7 17, w ∈ z_ws := by decide +kernel
theorem fp_X7_9 : z_FldP RX7 9 9 1 (.array .int) true := ⟨RX7, TX7, 17, tyX7, rfl, by decide, (z_in 130 (by decide +kernel) rfl), uw_X7, tyX7_ok, nmX7, rfl, tyX7_ok 1 (by decide), fun _ => rfl⟩
theorem fp_X7_15 : z_FldP RX7 15 9 2 (.array .int) true := ⟨RX7, TX7, 17, tyX7, rfl, by decide, (z_in 134 (by decide +kernel) rfl), uw_X7, tyX7_ok, nmX7, rfl, tyX7_ok 2 (by decide), fun _ => rfl⟩
theorem ac_char : Cond.arrayClass .char ∈ z_ws := (z_in 221 (by decide +kernel) rfl)
theorem fp_X7_18 : z_FldP RX7 18 9 3 (.array .char) true := ⟨RX7, TX7, 17, tyX7, rfl, by decide, (z_in 139 (by decide +kernel) rfl), uw_X7, tyX7_ok, nmX7, rfl, tyX7_ok 3 (by decide), fun _ => rfl⟩
theorem fp_X7_22 : z_FldP RX7 22 9 4 (.array .int) true := ⟨RX7, TX7, 17, tyX7, rfl, by decide, (z_in 143 (by decide +kernel) rfl), uw_X7, tyX7_ok, nmX7, rfl, tyX7_ok 4 (by decide), fun _ => rfl⟩
theorem bp_12 : (Int8.ofInt (12)).toInt32 = (12 : Int32) := by decide +kernel
theorem fp_X7_25 : z_FldP RX7 25 9 5 (.array .int) true := ⟨RX7, TX7, 17, tyX7, rfl, by decide, (z_in 149 (by decide +kernel) rfl), uw_X7, tyX7_ok, nmX7, rfl, tyX7_ok 5 (by decide), fun _ => rfl⟩
theorem fp_X7_28 : z_FldP RX7 28 9 6 (.array .int) true := ⟨RX7, TX7, 17, tyX7, rfl, by decide, (z_in 152 (by decide +kernel) rfl), uw_X7, tyX7_ok, nmX7, rfl, tyX7_ok 6 (by decide), fun _ => rfl⟩
theorem fp_X7_31 : z_FldP RX7 31 9 7 (.array .int) true := ⟨RX7, TX7, 17, tyX7, rfl, by decide, (z_in 155 (by decide +kernel) rfl), uw_X7, tyX7_ok, nmX7, rfl, tyX7_ok 7 (by decide), fun _ => rfl⟩
theorem ic_5 : Int32.ofInt (5) = (5 : Int32) := by decide +kernel
theorem fp_X7_34 : z_FldP RX7 34 9 9 (.array .int) true := ⟨RX7, TX7, 17, tyX7, rfl, by decide, (z_in 161 (by decide +kernel) rfl), uw_X7, tyX7_ok, nmX7, rfl, tyX7_ok 9 (by decide), fun _ => rfl⟩
theorem fp_X7_37 : z_FldP RX7 37 9 10 (.array .int) true := ⟨RX7, TX7, 17, tyX7, rfl, by decide, (z_in 163 (by decide +kernel) rfl), uw_X7, tyX7_ok, nmX7, rfl, tyX7_ok 10 (by decide), fun _ => rfl⟩
theorem fp_X7_40 : z_FldP RX7 40 9 11 (.array .int) true := ⟨RX7, TX7, 17, tyX7, rfl, by decide, (z_in 165 (by decide +kernel) rfl), uw_X7, tyX7_ok, nmX7, rfl, tyX7_ok 11 (by decide), fun _ => rfl⟩
theorem bp_100 : (Int8.ofInt (100)).toInt32 = (100 : Int32) := by decide +kernel
theorem fp_X7_43 : z_FldP RX7 43 9 14 .int false := ⟨RX7, TX7, 17, tyX7, rfl, by decide, (z_in 175 (by decide +kernel) rfl), uw_X7, tyX7_ok, nmX7, rfl, tyX7_ok 14 (by decide), fun q => by cases q⟩
theorem fl_X7_28 : z_Fld RX7 28 9 6 := ⟨RX7, TX7, 17, rfl, by decide, (z_in 152 (by decide +kernel) rfl), uw_X7⟩
theorem bp_20 : (Int8.ofInt (20)).toInt32 = (20 : Int32) := by decide +kernel
theorem k_X7_47 : Cond.methodLink RX7 47 yJ7_fill_53178 ∈ z_ws ∧ Cond.static yJ7_fill_53178 ∈ z_ws := ⟨(z_in 120 (by decide +kernel) rfl), (z_in 121 (by decide +kernel) rfl)⟩
theorem oi_X4_3 : Cond.methodLink RX4 3 Lib.objectInit ∈ z_ws ∧ Cond.instanceMethod Lib.objectInit ∈ z_ws ∧ Cond.code Lib.objectInit ⟨#[0xb1]⟩ 1 none ∈ z_ws := ⟨(z_in 227 (by decide +kernel) rfl), (z_in 112 (by decide +kernel) rfl), (z_in 113 (by decide +kernel) rfl)⟩
theorem bp_8 : (Int8.ofInt (8)).toInt32 = (8 : Int32) := by decide +kernel
theorem cl_X4_9 : Cond.classLink RX4 9 "FootnoteFishery$State" ∈ z_ws := (z_in 228 (by decide +kernel) rfl)
theorem uw_X4 : ∀ w ∈ u_ws RX4 TX4 3, w ∈ z_ws := by decide +kernel
theorem fp_X4_11 : z_FldP RX4 11 7 0 (.array (.object "FootnoteFishery$State")) true := ⟨RX4, TX4, 3, tyX4, rfl, by decide, (z_in 230 (by decide +kernel) rfl), uw_X4, tyX4_ok, nmX4, rfl, tyX4_ok 0 (by decide), fun _ => rfl⟩
theorem oi_X6_3 : Cond.methodLink RX6 3 Lib.objectInit ∈ z_ws ∧ Cond.instanceMethod Lib.objectInit ∈ z_ws ∧ Cond.code Lib.objectInit ⟨#[0xb1]⟩ 1 none ∈ z_ws := ⟨(z_in 246 (by decide +kernel) rfl), (z_in 112 (by decide +kernel) rfl), (z_in 113 (by decide +kernel) rfl)⟩
theorem sp_199 : (Int16.ofInt (199)).toInt32 = (199 : Int32) := by decide +kernel
theorem uw_X6 : ∀ w ∈ u_ws RX6 TX6 2, w ∈ z_ws := by decide +kernel
theorem fp_X6_9 : z_FldP RX6 9 8 0 (.array .int) true := ⟨RX6, TX6, 2, tyX6, rfl, by decide, (z_in 247 (by decide +kernel) rfl), uw_X6, tyX6_ok, nmX6, rfl, tyX6_ok 0 (by decide), fun _ => rfl⟩
theorem fp_X6_15 : z_FldP RX6 15 8 1 (.array .int) true := ⟨RX6, TX6, 2, tyX6, rfl, by decide, (z_in 248 (by decide +kernel) rfl), uw_X6, tyX6_ok, nmX6, rfl, tyX6_ok 1 (by decide), fun _ => rfl⟩
theorem oi_X3_3 : Cond.methodLink RX3 3 Lib.objectInit ∈ z_ws ∧ Cond.instanceMethod Lib.objectInit ∈ z_ws ∧ Cond.code Lib.objectInit ⟨#[0xb1]⟩ 1 none ∈ z_ws := ⟨(z_in 265 (by decide +kernel) rfl), (z_in 112 (by decide +kernel) rfl), (z_in 113 (by decide +kernel) rfl)⟩
theorem uw_X3 : ∀ w ∈ u_ws RX3 TX3 4, w ∈ z_ws := by decide +kernel
theorem fp_X3_9 : z_FldP RX3 9 6 0 (.array .int) true := ⟨RX3, TX3, 4, tyX3, rfl, by decide, (z_in 266 (by decide +kernel) rfl), uw_X3, tyX3_ok, nmX3, rfl, tyX3_ok 0 (by decide), fun _ => rfl⟩
theorem oi_X0_3 : Cond.methodLink RX0 3 Lib.objectInit ∈ z_ws ∧ Cond.instanceMethod Lib.objectInit ∈ z_ws ∧ Cond.code Lib.objectInit ⟨#[0xb1]⟩ 1 none ∈ z_ws := ⟨(z_in 259 (by decide +kernel) rfl), (z_in 112 (by decide +kernel) rfl), (z_in 113 (by decide +kernel) rfl)⟩
theorem uw_X0 : ∀ w ∈ u_ws RX0 TX0 5, w ∈ z_ws := by decide +kernel
theorem fp_X0_9 : z_FldP RX0 9 4 0 (.array .int) true := ⟨RX0, TX0, 5, tyX0, rfl, by decide, (z_in 279 (by decide +kernel) rfl), uw_X0, tyX0_ok, nmX0, rfl, tyX0_ok 0 (by decide), fun _ => rfl⟩
theorem fp_X0_15 : z_FldP RX0 15 4 1 (.array .int) true := ⟨RX0, TX0, 5, tyX0, rfl, by decide, (z_in 280 (by decide +kernel) rfl), uw_X0, tyX0_ok, nmX0, rfl, tyX0_ok 1 (by decide), fun _ => rfl⟩
theorem fp_X0_18 : z_FldP RX0 18 4 2 (.array .int) true := ⟨RX0, TX0, 5, tyX0, rfl, by decide, (z_in 281 (by decide +kernel) rfl), uw_X0, tyX0_ok, nmX0, rfl, tyX0_ok 2 (by decide), fun _ => rfl⟩
theorem fp_X0_21 : z_FldP RX0 21 4 3 (.array .int) true := ⟨RX0, TX0, 5, tyX0, rfl, by decide, (z_in 282 (by decide +kernel) rfl), uw_X0, tyX0_ok, nmX0, rfl, tyX0_ok 3 (by decide), fun _ => rfl⟩
theorem dfl_X3 : ∀ j, j < 4 → defaultValue (tyX3 j) = vp_V [.null, .int 0, .int 0, .int 0] j := by
  intro j hj
  match j, hj with
  | 0, _ => rfl
  | 1, _ => rfl
  | 2, _ => rfl
  | 3, _ => rfl
  | j + 4, hj => exact absurd hj (by omega)
theorem nw_X0_24 : z_New RX0 24 6 [.null, .int 0, .int 0, .int 0] := ⟨RX3, TX3, 4, tyX3, rfl, uw_X3, tyX3_ok, (z_in 260 (by decide +kernel) rfl), (z_in 261 (by decide +kernel) rfl), (z_in 78 (by decide +kernel) rfl), dfl_X3, by decide, z_dfl _ (by decide)⟩
theorem k_X0_26 : (RX0, 26, yX3_init, "FootnoteFishery") ∈ kNest ∧ yX3_init.name = "<init>" ∧ Cond.instanceMethod yX3_init ∈ z_ws := ⟨by decide +kernel, rfl, (z_in 263 (by decide +kernel) rfl)⟩
theorem fp_X0_27 : z_FldP RX0 27 4 4 (.object "FootnoteFishery$DepthSearch") true := ⟨RX0, TX0, 5, tyX0, rfl, by decide, (z_in 283 (by decide +kernel) rfl), uw_X0, tyX0_ok, nmX0, rfl, tyX0_ok 4 (by decide), fun _ => rfl⟩
theorem oi_X8_3 : Cond.methodLink RX8 3 Lib.objectInit ∈ z_ws ∧ Cond.instanceMethod Lib.objectInit ∈ z_ws ∧ Cond.code Lib.objectInit ⟨#[0xb1]⟩ 1 none ∈ z_ws := ⟨(z_in 300 (by decide +kernel) rfl), (z_in 112 (by decide +kernel) rfl), (z_in 113 (by decide +kernel) rfl)⟩
theorem bp_60 : (Int8.ofInt (60)).toInt32 = (60 : Int32) := by decide +kernel
theorem uw_X8 : ∀ w ∈ u_ws RX8 TX8 11, w ∈ z_ws := by decide +kernel
theorem fp_X8_9 : z_FldP RX8 9 10 0 (.array .char) true := ⟨RX8, TX8, 11, tyX8, rfl, by decide, (z_in 301 (by decide +kernel) rfl), uw_X8, tyX8_ok, nmX8, rfl, tyX8_ok 0 (by decide), fun _ => rfl⟩
theorem ic_m1 : Int32.ofInt (-1) = (-1 : Int32) := by decide +kernel
theorem fp_X8_15 : z_FldP RX8 15 10 2 .int false := ⟨RX8, TX8, 11, tyX8, rfl, by decide, (z_in 304 (by decide +kernel) rfl), uw_X8, tyX8_ok, nmX8, rfl, tyX8_ok 2 (by decide), fun q => by cases q⟩
theorem bp_15 : (Int8.ofInt (15)).toInt32 = (15 : Int32) := by decide +kernel
theorem fp_X8_19 : z_FldP RX8 19 10 4 (.array .int) true := ⟨RX8, TX8, 11, tyX8, rfl, by decide, (z_in 308 (by decide +kernel) rfl), uw_X8, tyX8_ok, nmX8, rfl, tyX8_ok 4 (by decide), fun _ => rfl⟩
theorem fp_X8_23 : z_FldP RX8 23 10 5 (.array .int) true := ⟨RX8, TX8, 11, tyX8, rfl, by decide, (z_in 310 (by decide +kernel) rfl), uw_X8, tyX8_ok, nmX8, rfl, tyX8_ok 5 (by decide), fun _ => rfl⟩
theorem fp_X8_26 : z_FldP RX8 26 10 6 (.array .int) true := ⟨RX8, TX8, 11, tyX8, rfl, by decide, (z_in 312 (by decide +kernel) rfl), uw_X8, tyX8_ok, nmX8, rfl, tyX8_ok 6 (by decide), fun _ => rfl⟩
theorem fp_X8_29 : z_FldP RX8 29 10 7 (.array .int) true := ⟨RX8, TX8, 11, tyX8, rfl, by decide, (z_in 314 (by decide +kernel) rfl), uw_X8, tyX8_ok, nmX8, rfl, tyX8_ok 7 (by decide), fun _ => rfl⟩
theorem ic_3 : Int32.ofInt (3) = (3 : Int32) := by decide +kernel
theorem fp_X8_32 : z_FldP RX8 32 10 9 (.array .int) true := ⟨RX8, TX8, 11, tyX8, rfl, by decide, (z_in 317 (by decide +kernel) rfl), uw_X8, tyX8_ok, nmX8, rfl, tyX8_ok 9 (by decide), fun _ => rfl⟩
theorem oi_X2_1 : Cond.methodLink RX2 1 Lib.objectInit ∈ z_ws ∧ Cond.instanceMethod Lib.objectInit ∈ z_ws ∧ Cond.code Lib.objectInit ⟨#[0xb1]⟩ 1 none ∈ z_ws := ⟨(z_in 347 (by decide +kernel) rfl), (z_in 112 (by decide +kernel) rfl), (z_in 113 (by decide +kernel) rfl)⟩
theorem oi_J5_3 : Cond.methodLink RJ5 3 Lib.objectInit ∈ z_ws ∧ Cond.instanceMethod Lib.objectInit ∈ z_ws ∧ Cond.code Lib.objectInit ⟨#[0xb1]⟩ 1 none ∈ z_ws := ⟨(z_in 369 (by decide +kernel) rfl), (z_in 112 (by decide +kernel) rfl), (z_in 113 (by decide +kernel) rfl)⟩
theorem gs_J5_18 : Cond.fieldLink RJ5 18 "java/lang/String" "COMPACT_STRINGS" "Z" ∈ z_ws := (z_in 370 (by decide +kernel) rfl)
theorem ac_byte : Cond.arrayClass .byte ∈ z_ws := (z_in 393 (by decide +kernel) rfl)
theorem uw_J4 : ∀ w ∈ u_ws RJ4 TJ4 4, w ∈ z_ws := by decide +kernel
theorem fp_J5_15 : z_FldP RJ5 15 1 0 (.array .byte) false := ⟨RJ4, TJ4, 4, tyJ4, rfl, by decide, (z_in 379 (by decide +kernel) rfl), uw_J4, tyJ4_ok, nmJ4, rfl, tyJ4_ok 0 (by decide), fun q => by cases q⟩
theorem fp_J5_22 : z_FldP RJ5 22 1 1 .byte false := ⟨RJ4, TJ4, 4, tyJ4, rfl, by decide, (z_in 380 (by decide +kernel) rfl), uw_J4, tyJ4_ok, nmJ4, rfl, tyJ4_ok 1 (by decide), fun q => by cases q⟩
theorem bp_16 : (Int8.ofInt (16)).toInt32 = (16 : Int32) := by decide +kernel
theorem k_J4_1 : Cond.methodLink RJ4 1 yJ5_init_d00df ∈ z_ws ∧ yJ5_init_d00df.name = "<init>" ∧ Cond.instanceMethod yJ5_init_d00df ∈ z_ws := ⟨(z_in 366 (by decide +kernel) rfl), rfl, (z_in 367 (by decide +kernel) rfl)⟩
theorem oi_X9_3 : Cond.methodLink RX9 3 Lib.objectInit ∈ z_ws ∧ Cond.instanceMethod Lib.objectInit ∈ z_ws ∧ Cond.code Lib.objectInit ⟨#[0xb1]⟩ 1 none ∈ z_ws := ⟨(z_in 111 (by decide +kernel) rfl), (z_in 112 (by decide +kernel) rfl), (z_in 113 (by decide +kernel) rfl)⟩
theorem dfl_X7 : ∀ j, j < 17 → defaultValue (tyX7 j) = vp_V [.int 0, .null, .null, .null, .null, .null, .null, .null, .int 0, .null, .null, .null, .int 0, .int 0, .int 0, .int 0, .int 0] j := by
  intro j hj
  match j, hj with
  | 0, _ => rfl
  | 1, _ => rfl
  | 2, _ => rfl
  | 3, _ => rfl
  | 4, _ => rfl
  | 5, _ => rfl
  | 6, _ => rfl
  | 7, _ => rfl
  | 8, _ => rfl
  | 9, _ => rfl
  | 10, _ => rfl
  | 11, _ => rfl
  | 12, _ => rfl
  | 13, _ => rfl
  | 14, _ => rfl
  | 15, _ => rfl
  | 16, _ => rfl
  | j + 17, hj => exact absurd hj (by omega)
theorem nw_X9_9 : z_New RX9 9 9 [.int 0, .null, .null, .null, .null, .null, .null, .null, .int 0, .null, .null, .null, .int 0, .int 0, .int 0, .int 0, .int 0] := ⟨RX7, TX7, 17, tyX7, rfl, uw_X7, tyX7_ok, (z_in 114 (by decide +kernel) rfl), (z_in 115 (by decide +kernel) rfl), (z_in 73 (by decide +kernel) rfl), dfl_X7, by decide, z_dfl _ (by decide)⟩
theorem k_X9_11 : Cond.methodLink RX9 11 yX7_init ∈ z_ws ∧ yX7_init.name = "<init>" ∧ Cond.instanceMethod yX7_init ∈ z_ws := ⟨(z_in 116 (by decide +kernel) rfl), rfl, (z_in 117 (by decide +kernel) rfl)⟩
theorem uw_X9 : ∀ w ∈ u_ws RX9 TX9 9, w ∈ z_ws := by decide +kernel
theorem fp_X9_12 : z_FldP RX9 12 11 0 (.object "FootnoteFishery$State") true := ⟨RX9, TX9, 9, tyX9, rfl, by decide, (z_in 394 (by decide +kernel) rfl), uw_X9, tyX9_ok, nmX9, rfl, tyX9_ok 0 (by decide), fun _ => rfl⟩
theorem fp_X9_16 : z_FldP RX9 16 11 1 (.object "FootnoteFishery$State") true := ⟨RX9, TX9, 9, tyX9, rfl, by decide, (z_in 395 (by decide +kernel) rfl), uw_X9, tyX9_ok, nmX9, rfl, tyX9_ok 1 (by decide), fun _ => rfl⟩
theorem dfl_X4 : ∀ j, j < 3 → defaultValue (tyX4 j) = vp_V [.null, .int 0, .int 0] j := by
  intro j hj
  match j, hj with
  | 0, _ => rfl
  | 1, _ => rfl
  | 2, _ => rfl
  | j + 3, hj => exact absurd hj (by omega)
theorem nw_X9_19 : z_New RX9 19 7 [.null, .int 0, .int 0] := ⟨RX4, TX4, 3, tyX4, rfl, uw_X4, tyX4_ok, (z_in 222 (by decide +kernel) rfl), (z_in 223 (by decide +kernel) rfl), (z_in 75 (by decide +kernel) rfl), dfl_X4, by decide, z_dfl _ (by decide)⟩
theorem k_X9_21 : (RX9, 21, yX4_init, "FootnoteFishery") ∈ kNest ∧ yX4_init.name = "<init>" ∧ Cond.instanceMethod yX4_init ∈ z_ws := ⟨by decide +kernel, rfl, (z_in 225 (by decide +kernel) rfl)⟩
theorem fp_X9_22 : z_FldP RX9 22 11 2 (.object "FootnoteFishery$History") true := ⟨RX9, TX9, 9, tyX9, rfl, by decide, (z_in 396 (by decide +kernel) rfl), uw_X9, tyX9_ok, nmX9, rfl, tyX9_ok 2 (by decide), fun _ => rfl⟩
theorem dfl_X6 : ∀ j, j < 2 → defaultValue (tyX6 j) = vp_V [.null, .null] j := by
  intro j hj
  match j, hj with
  | 0, _ => rfl
  | 1, _ => rfl
  | j + 2, hj => exact absurd hj (by omega)
theorem nw_X9_26 : z_New RX9 26 8 [.null, .null] := ⟨RX6, TX6, 2, tyX6, rfl, uw_X6, tyX6_ok, (z_in 241 (by decide +kernel) rfl), (z_in 242 (by decide +kernel) rfl), (z_in 76 (by decide +kernel) rfl), dfl_X6, by decide, z_dfl _ (by decide)⟩
theorem k_X9_28 : (RX9, 28, yX6_init, "FootnoteFishery") ∈ kNest ∧ yX6_init.name = "<init>" ∧ Cond.instanceMethod yX6_init ∈ z_ws := ⟨by decide +kernel, rfl, (z_in 244 (by decide +kernel) rfl)⟩
theorem fp_X9_29 : z_FldP RX9 29 11 3 (.object "FootnoteFishery$Landing") true := ⟨RX9, TX9, 9, tyX9, rfl, by decide, (z_in 397 (by decide +kernel) rfl), uw_X9, tyX9_ok, nmX9, rfl, tyX9_ok 3 (by decide), fun _ => rfl⟩
theorem dfl_X0 : ∀ j, j < 5 → defaultValue (tyX0 j) = vp_V [.null, .null, .null, .null, .null] j := by
  intro j hj
  match j, hj with
  | 0, _ => rfl
  | 1, _ => rfl
  | 2, _ => rfl
  | 3, _ => rfl
  | 4, _ => rfl
  | j + 5, hj => exact absurd hj (by omega)
theorem nw_X9_33 : z_New RX9 33 4 [.null, .null, .null, .null, .null] := ⟨RX0, TX0, 5, tyX0, rfl, uw_X0, tyX0_ok, (z_in 254 (by decide +kernel) rfl), (z_in 255 (by decide +kernel) rfl), (z_in 77 (by decide +kernel) rfl), dfl_X0, by decide, z_dfl _ (by decide)⟩
theorem k_X9_35 : (RX9, 35, yX0_init, "FootnoteFishery") ∈ kNest ∧ yX0_init.name = "<init>" ∧ Cond.instanceMethod yX0_init ∈ z_ws := ⟨by decide +kernel, rfl, (z_in 257 (by decide +kernel) rfl)⟩
theorem fp_X9_36 : z_FldP RX9 36 11 4 (.object "FootnoteFishery$Citations") true := ⟨RX9, TX9, 9, tyX9, rfl, by decide, (z_in 398 (by decide +kernel) rfl), uw_X9, tyX9_ok, nmX9, rfl, tyX9_ok 4 (by decide), fun _ => rfl⟩
theorem dfl_X8 : ∀ j, j < 11 → defaultValue (tyX8 j) = vp_V [.null, .int 0, .int 0, .int 0, .null, .null, .null, .null, .int 0, .null, .int 0] j := by
  intro j hj
  match j, hj with
  | 0, _ => rfl
  | 1, _ => rfl
  | 2, _ => rfl
  | 3, _ => rfl
  | 4, _ => rfl
  | 5, _ => rfl
  | 6, _ => rfl
  | 7, _ => rfl
  | 8, _ => rfl
  | 9, _ => rfl
  | 10, _ => rfl
  | j + 11, hj => exact absurd hj (by omega)
theorem nw_X9_40 : z_New RX9 40 10 [.null, .int 0, .int 0, .int 0, .null, .null, .null, .null, .int 0, .null, .int 0] := ⟨RX8, TX8, 11, tyX8, rfl, uw_X8, tyX8_ok, (z_in 295 (by decide +kernel) rfl), (z_in 296 (by decide +kernel) rfl), (z_in 79 (by decide +kernel) rfl), dfl_X8, by decide, z_dfl _ (by decide)⟩
theorem k_X9_42 : (RX9, 42, yX8_init, "FootnoteFishery") ∈ kNest ∧ yX8_init.name = "<init>" ∧ Cond.instanceMethod yX8_init ∈ z_ws := ⟨by decide +kernel, rfl, (z_in 298 (by decide +kernel) rfl)⟩
theorem fp_X9_43 : z_FldP RX9 43 11 5 (.object "FootnoteFishery$Text") true := ⟨RX9, TX9, 9, tyX9, rfl, by decide, (z_in 399 (by decide +kernel) rfl), uw_X9, tyX9_ok, nmX9, rfl, tyX9_ok 5 (by decide), fun _ => rfl⟩
theorem dfl_X2 : ∀ j, j < 3 → defaultValue (tyX2 j) = vp_V [.int 0, .int 0, .int 0] j := by
  intro j hj
  match j, hj with
  | 0, _ => rfl
  | 1, _ => rfl
  | 2, _ => rfl
  | j + 3, hj => exact absurd hj (by omega)
theorem uw_X2 : ∀ w ∈ u_ws RX2 TX2 3, w ∈ z_ws := by decide +kernel
theorem nw_X9_47 : z_New RX9 47 5 [.int 0, .int 0, .int 0] := ⟨RX2, TX2, 3, tyX2, rfl, uw_X2, tyX2_ok, (z_in 342 (by decide +kernel) rfl), (z_in 343 (by decide +kernel) rfl), (z_in 80 (by decide +kernel) rfl), dfl_X2, by decide, z_dfl _ (by decide)⟩
theorem k_X9_49 : (RX9, 49, yX2_init, "FootnoteFishery") ∈ kNest ∧ yX2_init.name = "<init>" ∧ Cond.instanceMethod yX2_init ∈ z_ws := ⟨by decide +kernel, rfl, (z_in 345 (by decide +kernel) rfl)⟩
theorem fp_X9_50 : z_FldP RX9 50 11 6 (.object "FootnoteFishery$Denial") true := ⟨RX9, TX9, 9, tyX9, rfl, by decide, (z_in 400 (by decide +kernel) rfl), uw_X9, tyX9_ok, nmX9, rfl, tyX9_ok 6 (by decide), fun _ => rfl⟩
theorem dfl_J4 : ∀ j, j < 4 → defaultValue (tyJ4 j) = vp_V [.null, .int 0, .int 0, .int 0] j := by
  intro j hj
  match j, hj with
  | 0, _ => rfl
  | 1, _ => rfl
  | 2, _ => rfl
  | 3, _ => rfl
  | j + 4, hj => exact absurd hj (by omega)
theorem nw_X9_54 : z_New RX9 54 1 [.null, .int 0, .int 0, .int 0] := ⟨RJ4, TJ4, 4, tyJ4, rfl, uw_J4, tyJ4_ok, (z_in 361 (by decide +kernel) rfl), (z_in 362 (by decide +kernel) rfl), (z_in 82 (by decide +kernel) rfl), dfl_J4, by decide, z_dfl _ (by decide)⟩
theorem k_X9_56 : Cond.methodLink RX9 56 yJ4_init_da8c8 ∈ z_ws ∧ yJ4_init_da8c8.name = "<init>" ∧ Cond.instanceMethod yJ4_init_da8c8 ∈ z_ws := ⟨(z_in 363 (by decide +kernel) rfl), rfl, (z_in 364 (by decide +kernel) rfl)⟩
theorem fp_X9_57 : z_FldP RX9 57 11 7 (.object "java/lang/StringBuilder") true := ⟨RX9, TX9, 9, tyX9, rfl, by decide, (z_in 401 (by decide +kernel) rfl), uw_X9, tyX9_ok, nmX9, rfl, tyX9_ok 7 (by decide), fun _ => rfl⟩
theorem oi_X10_1 : Cond.methodLink RX10 1 Lib.objectInit ∈ z_ws ∧ Cond.instanceMethod Lib.objectInit ∈ z_ws ∧ Cond.code Lib.objectInit ⟨#[0xb1]⟩ 1 none ∈ z_ws := ⟨(z_in 1678 (by decide +kernel) rfl), (z_in 112 (by decide +kernel) rfl), (z_in 113 (by decide +kernel) rfl)⟩
theorem bp_99 : (Int8.ofInt (99)).toInt32 = (99 : Int32) := by decide +kernel
theorem uw_X10 : ∀ w ∈ u_ws RX10 TX10 20, w ∈ z_ws := by decide +kernel
theorem fp_X10_7 : z_FldP RX10 7 12 0 (.array .int) true := ⟨RX10, TX10, 20, tyX10, rfl, by decide, (z_in 1679 (by decide +kernel) rfl), uw_X10, tyX10_ok, nmX10, rfl, tyX10_ok 0 (by decide), fun _ => rfl⟩
theorem sp_792 : (Int16.ofInt (792)).toInt32 = (792 : Int32) := by decide +kernel
theorem fp_X10_13 : z_FldP RX10 13 12 1 (.array .int) true := ⟨RX10, TX10, 20, tyX10, rfl, by decide, (z_in 1680 (by decide +kernel) rfl), uw_X10, tyX10_ok, nmX10, rfl, tyX10_ok 1 (by decide), fun _ => rfl⟩
theorem fp_X10_16 : z_FldP RX10 16 12 2 (.array .int) true := ⟨RX10, TX10, 20, tyX10, rfl, by decide, (z_in 1681 (by decide +kernel) rfl), uw_X10, tyX10_ok, nmX10, rfl, tyX10_ok 2 (by decide), fun _ => rfl⟩
theorem fp_X10_19 : z_FldP RX10 19 12 3 (.array .int) true := ⟨RX10, TX10, 20, tyX10, rfl, by decide, (z_in 1682 (by decide +kernel) rfl), uw_X10, tyX10_ok, nmX10, rfl, tyX10_ok 3 (by decide), fun _ => rfl⟩
theorem fp_X10_22 : z_FldP RX10 22 12 12 (.array .int) true := ⟨RX10, TX10, 20, tyX10, rfl, by decide, (z_in 1691 (by decide +kernel) rfl), uw_X10, tyX10_ok, nmX10, rfl, tyX10_ok 12 (by decide), fun _ => rfl⟩
theorem fp_X10_25 : z_FldP RX10 25 12 14 .int false := ⟨RX10, TX10, 20, tyX10, rfl, by decide, (z_in 1693 (by decide +kernel) rfl), uw_X10, tyX10_ok, nmX10, rfl, tyX10_ok 14 (by decide), fun q => by cases q⟩
theorem fp_X10_29 : z_FldP RX10 29 12 15 (.array .char) true := ⟨RX10, TX10, 20, tyX10, rfl, by decide, (z_in 1694 (by decide +kernel) rfl), uw_X10, tyX10_ok, nmX10, rfl, tyX10_ok 15 (by decide), fun _ => rfl⟩
theorem bp_124 : (Int8.ofInt (124)).toInt32 = (124 : Int32) := by decide +kernel
theorem fp_X10_33 : z_FldP RX10 33 12 18 (.array .int) true := ⟨RX10, TX10, 20, tyX10, rfl, by decide, (z_in 1697 (by decide +kernel) rfl), uw_X10, tyX10_ok, nmX10, rfl, tyX10_ok 18 (by decide), fun _ => rfl⟩
theorem fl_X10_7 : z_Fld RX10 7 12 0 := ⟨RX10, TX10, 20, rfl, by decide, (z_in 1679 (by decide +kernel) rfl), uw_X10⟩
theorem ic_4 : Int32.ofInt (4) = (4 : Int32) := by decide +kernel
theorem bp_11 : (Int8.ofInt (11)).toInt32 = (11 : Int32) := by decide +kernel
theorem k_X9_362 : Cond.methodLink RX9 362 yX9_isBetween ∈ z_ws ∧ Cond.static yX9_isBetween ∈ z_ws := ⟨(z_in 657 (by decide +kernel) rfl), (z_in 658 (by decide +kernel) rfl)⟩
theorem k_X5_19 : (RX5, 19, yX9_isPage, "FootnoteFishery") ∈ kNest ∧ Cond.static yX9_isPage ∈ z_ws := ⟨by decide +kernel, (z_in 655 (by decide +kernel) rfl)⟩
theorem bp_30 : (Int8.ofInt (30)).toInt32 = (30 : Int32) := by decide +kernel
theorem k_X5_23 : (RX5, 23, yX9_isBetween, "FootnoteFishery") ∈ kNest ∧ Cond.static yX9_isBetween ∈ z_ws := ⟨by decide +kernel, (z_in 658 (by decide +kernel) rfl)⟩
theorem fl_X5_51 : z_Fld RX5 51 9 0 := ⟨RX7, TX7, 17, rfl, by decide, (z_in 128 (by decide +kernel) rfl), uw_X7⟩
theorem fl_X7_53 : z_Fld RX7 53 9 0 := ⟨RX7, TX7, 17, rfl, by decide, (z_in 123 (by decide +kernel) rfl), uw_X7⟩
theorem k_X5_55 : Cond.methodLink RX5 55 yX7_hasNote ∈ z_ws ∧ Cond.instanceMethod yX7_hasNote ∈ z_ws ∧ Cond.selects RX7 yX7_hasNote yX7_hasNote ∈ z_ws := ⟨(z_in 664 (by decide +kernel) rfl), (z_in 665 (by decide +kernel) rfl), (z_in 666 (by decide +kernel) rfl)⟩
theorem bp_m2 : (Int8.ofInt (-2)).toInt32 = (-2 : Int32) := by decide +kernel
theorem fl_X5_58 : z_Fld RX5 58 9 4 := ⟨RX7, TX7, 17, rfl, by decide, (z_in 147 (by decide +kernel) rfl), uw_X7⟩
theorem k_X5_62 : (RX5, 62, yX9_has, "FootnoteFishery") ∈ kNest ∧ Cond.static yX9_has ∈ z_ws := ⟨by decide +kernel, (z_in 446 (by decide +kernel) rfl)⟩
theorem fl_X5_66 : z_Fld RX5 66 9 8 := ⟨RX7, TX7, 17, rfl, by decide, (z_in 159 (by decide +kernel) rfl), uw_X7⟩
theorem fl_X7_62 : z_Fld RX7 62 9 8 := ⟨RX7, TX7, 17, rfl, by decide, (z_in 157 (by decide +kernel) rfl), uw_X7⟩
theorem fl_X7_69 : z_Fld RX7 69 9 13 := ⟨RX7, TX7, 17, rfl, by decide, (z_in 172 (by decide +kernel) rfl), uw_X7⟩
theorem k_X7_78 : Cond.methodLink RX7 78 yJ9_floorMod_7cf53 ∈ z_ws ∧ Cond.static yJ9_floorMod_7cf53 ∈ z_ws := ⟨(z_in 556 (by decide +kernel) rfl), (z_in 557 (by decide +kernel) rfl)⟩
theorem k_X5_31 : Cond.methodLink RX5 31 yX7_hasNet ∈ z_ws ∧ Cond.instanceMethod yX7_hasNet ∈ z_ws ∧ Cond.selects RX7 yX7_hasNet yX7_hasNet ∈ z_ws := ⟨(z_in 672 (by decide +kernel) rfl), (z_in 673 (by decide +kernel) rfl), (z_in 674 (by decide +kernel) rfl)⟩
theorem fl_X5_69 : z_Fld RX5 69 9 12 := ⟨RX7, TX7, 17, rfl, by decide, (z_in 169 (by decide +kernel) rfl), uw_X7⟩
theorem k_X5_73 : Cond.methodLink RX5 73 yX7_presentSeason ∈ z_ws ∧ Cond.instanceMethod yX7_presentSeason ∈ z_ws ∧ Cond.selects RX7 yX7_presentSeason yX7_presentSeason ∈ z_ws := ⟨(z_in 679 (by decide +kernel) rfl), (z_in 553 (by decide +kernel) rfl), (z_in 554 (by decide +kernel) rfl)⟩
theorem fl_X5_77 : z_Fld RX5 77 9 11 := ⟨RX7, TX7, 17, rfl, by decide, (z_in 167 (by decide +kernel) rfl), uw_X7⟩
theorem ic_2 : Int32.ofInt (2) = (2 : Int32) := by decide +kernel
theorem bp_m3 : (Int8.ofInt (-3)).toInt32 = (-3 : Int32) := by decide +kernel
theorem fl_X7_18 : z_Fld RX7 18 9 3 := ⟨RX7, TX7, 17, rfl, by decide, (z_in 139 (by decide +kernel) rfl), uw_X7⟩
theorem k_X7_91 : (RX7, 91, yX9_bit, "FootnoteFishery") ∈ kNest ∧ Cond.static yX9_bit ∈ z_ws := ⟨by decide +kernel, (z_in 443 (by decide +kernel) rfl)⟩
theorem cn_J6_265 : Cond.constant RJ6 265 (1431655765 : Int32) ∈ z_ws := (z_in 458 (by decide +kernel) rfl)
theorem cn_J6_266 : Cond.constant RJ6 266 (858993459 : Int32) ∈ z_ws := (z_in 459 (by decide +kernel) rfl)
theorem cn_J6_267 : Cond.constant RJ6 267 (252645135 : Int32) ∈ z_ws := (z_in 460 (by decide +kernel) rfl)
theorem bp_63 : (Int8.ofInt (63)).toInt32 = (63 : Int32) := by decide +kernel
theorem k_X7_95 : Cond.methodLink RX7 95 yX7_setOf ∈ z_ws ∧ Cond.instanceMethod yX7_setOf ∈ z_ws ∧ Cond.selects RX7 yX7_setOf yX7_setOf ∈ z_ws := ⟨(z_in 528 (by decide +kernel) rfl), (z_in 529 (by decide +kernel) rfl), (z_in 530 (by decide +kernel) rfl)⟩
theorem k_X7_99 : Cond.methodLink RX7 99 yJ6_bitCount_0f7a4 ∈ z_ws ∧ Cond.static yJ6_bitCount_0f7a4 ∈ z_ws := ⟨(z_in 533 (by decide +kernel) rfl), (z_in 456 (by decide +kernel) rfl)⟩
theorem fl_X5_80 : z_Fld RX5 80 9 3 := ⟨RX7, TX7, 17, rfl, by decide, (z_in 141 (by decide +kernel) rfl), uw_X7⟩
theorem bp_104 : (Int8.ofInt (104)).toInt32 = (104 : Int32) := by decide +kernel
theorem k_X7_87 : Cond.methodLink RX7 87 yX7_presentSeason ∈ z_ws ∧ Cond.instanceMethod yX7_presentSeason ∈ z_ws ∧ Cond.selects RX7 yX7_presentSeason yX7_presentSeason ∈ z_ws := ⟨(z_in 552 (by decide +kernel) rfl), (z_in 553 (by decide +kernel) rfl), (z_in 554 (by decide +kernel) rfl)⟩
theorem fl_X5_84 : z_Fld RX5 84 9 14 := ⟨RX7, TX7, 17, rfl, by decide, (z_in 176 (by decide +kernel) rfl), uw_X7⟩
theorem k_X5_87 : Cond.methodLink RX5 87 yX7_licencePrice ∈ z_ws ∧ Cond.instanceMethod yX7_licencePrice ∈ z_ws ∧ Cond.selects RX7 yX7_licencePrice yX7_licencePrice ∈ z_ws := ⟨(z_in 687 (by decide +kernel) rfl), (z_in 688 (by decide +kernel) rfl), (z_in 689 (by decide +kernel) rfl)⟩
theorem bp_6 : (Int8.ofInt (6)).toInt32 = (6 : Int32) := by decide +kernel
theorem k_X5_9 : Cond.methodLink RX5 9 yX5_judgeNote ∈ z_ws ∧ Cond.static yX5_judgeNote ∈ z_ws := ⟨(z_in 651 (by decide +kernel) rfl), (z_in 652 (by decide +kernel) rfl)⟩
theorem k_X5_15 : Cond.methodLink RX5 15 yX5_judgeCitation ∈ z_ws ∧ Cond.static yX5_judgeCitation ∈ z_ws := ⟨(z_in 661 (by decide +kernel) rfl), (z_in 662 (by decide +kernel) rfl)⟩
theorem k_X5_27 : Cond.methodLink RX5 27 yX5_judgeNet ∈ z_ws ∧ Cond.static yX5_judgeNet ∈ z_ws := ⟨(z_in 669 (by decide +kernel) rfl), (z_in 670 (by decide +kernel) rfl)⟩
theorem k_X5_36 : Cond.methodLink RX5 36 yX5_judgeHaul ∈ z_ws ∧ Cond.static yX5_judgeHaul ∈ z_ws := ⟨(z_in 676 (by decide +kernel) rfl), (z_in 677 (by decide +kernel) rfl)⟩
theorem k_X5_40 : Cond.methodLink RX5 40 yX7_count ∈ z_ws ∧ Cond.instanceMethod yX7_count ∈ z_ws ∧ Cond.selects RX7 yX7_count yX7_count ∈ z_ws := ⟨(z_in 680 (by decide +kernel) rfl), (z_in 525 (by decide +kernel) rfl), (z_in 526 (by decide +kernel) rfl)⟩
theorem bp_7 : (Int8.ofInt (7)).toInt32 = (7 : Int32) := by decide +kernel
theorem k_X5_44 : Cond.methodLink RX5 44 yX5_judgeFree ∈ z_ws ∧ Cond.static yX5_judgeFree ∈ z_ws := ⟨(z_in 681 (by decide +kernel) rfl), (z_in 682 (by decide +kernel) rfl)⟩
theorem k_X5_47 : Cond.methodLink RX5 47 yX5_judgeLicence ∈ z_ws ∧ Cond.static yX5_judgeLicence ∈ z_ws := ⟨(z_in 684 (by decide +kernel) rfl), (z_in 685 (by decide +kernel) rfl)⟩
theorem bp_40 : (Int8.ofInt (40)).toInt32 = (40 : Int32) := by decide +kernel
theorem fl_X7_22 : z_Fld RX7 22 9 4 := ⟨RX7, TX7, 17, rfl, by decide, (z_in 143 (by decide +kernel) rfl), uw_X7⟩
theorem k_X5_90 : Cond.methodLink RX5 90 yX7_countCitedFrom ∈ z_ws ∧ Cond.instanceMethod yX7_countCitedFrom ∈ z_ws ∧ Cond.selects RX7 yX7_countCitedFrom yX7_countCitedFrom ∈ z_ws := ⟨(z_in 696 (by decide +kernel) rfl), (z_in 697 (by decide +kernel) rfl), (z_in 698 (by decide +kernel) rfl)⟩
theorem bp_102 : (Int8.ofInt (102)).toInt32 = (102 : Int32) := by decide +kernel
theorem fp_X2_7 : z_FldP RX2 7 5 0 .int false := ⟨RX2, TX2, 3, tyX2, rfl, by decide, (z_in 348 (by decide +kernel) rfl), uw_X2, tyX2_ok, nmX2, rfl, tyX2_ok 0 (by decide), fun q => by cases q⟩
theorem fp_X2_13 : z_FldP RX2 13 5 1 .int false := ⟨RX2, TX2, 3, tyX2, rfl, by decide, (z_in 350 (by decide +kernel) rfl), uw_X2, tyX2_ok, nmX2, rfl, tyX2_ok 1 (by decide), fun q => by cases q⟩
theorem fp_X2_16 : z_FldP RX2 16 5 2 .int false := ⟨RX2, TX2, 3, tyX2, rfl, by decide, (z_in 352 (by decide +kernel) rfl), uw_X2, tyX2_ok, nmX2, rfl, tyX2_ok 2 (by decide), fun q => by cases q⟩
theorem th_X9_251_338_255 : z_Thr RX9 "java/lang/UnsupportedOperationException" 251 338 255 := ⟨"denied", 8, 7, ⟨#[0x2a, 0x2b, 0xb7, 0, 7, 0xb1]⟩, "java/lang/RuntimeException", ["java/lang/Exception"], by decide +kernel, by decide +kernel, by decide, by decide +kernel, by decide +kernel, by decide +kernel, by decide +kernel, (z_in 811 (by decide +kernel) rfl), (z_in 96 (by decide +kernel) rfl), by decide +kernel, by decide +kernel⟩
theorem th_X9_275_336_279 : z_Thr RX9 "java/lang/IndexOutOfBoundsException" 275 336 279 := ⟨"no such net", 6, 7, ⟨#[0x2a, 0x2b, 0xb7, 0, 7, 0xb1]⟩, "java/lang/RuntimeException", ["java/lang/Exception"], by decide +kernel, by decide +kernel, by decide, by decide +kernel, by decide +kernel, by decide +kernel, by decide +kernel, (z_in 795 (by decide +kernel) rfl), (z_in 95 (by decide +kernel) rfl), by decide +kernel, by decide +kernel⟩
theorem th_X9_120_334_124 : z_Thr RX9 "java/util/NoSuchElementException" 120 334 124 := ⟨"no such note", 4, 13, ⟨#[0x2a, 0x2b, 0xb7, 0, 13, 0xb1]⟩, "java/lang/RuntimeException", ["java/lang/Exception"], by decide +kernel, by decide +kernel, by decide, by decide +kernel, by decide +kernel, by decide +kernel, by decide +kernel, (z_in 779 (by decide +kernel) rfl), (z_in 94 (by decide +kernel) rfl), by decide +kernel, by decide +kernel⟩
theorem th_X9_232_332_236 : z_Thr RX9 "java/lang/IllegalArgumentException" 232 332 236 := ⟨"an argument is out of range", 2, 7, ⟨#[0x2a, 0x2b, 0xb7, 0, 7, 0xb1]⟩, "java/lang/RuntimeException", ["java/lang/Exception"], by decide +kernel, by decide +kernel, by decide, by decide +kernel, by decide +kernel, by decide +kernel, by decide +kernel, (z_in 707 (by decide +kernel) rfl), (z_in 93 (by decide +kernel) rfl), by decide +kernel, by decide +kernel⟩
theorem fp_X7_53 : z_FldP RX7 53 9 0 .int false := ⟨RX7, TX7, 17, tyX7, rfl, by decide, (z_in 123 (by decide +kernel) rfl), uw_X7, tyX7_ok, nmX7, rfl, tyX7_ok 0 (by decide), fun q => by cases q⟩
theorem fl_X7_9 : z_Fld RX7 9 9 1 := ⟨RX7, TX7, 17, rfl, by decide, (z_in 130 (by decide +kernel) rfl), uw_X7⟩
theorem ar_X7_56 : Cond.methodLink RX7 56 arraycopyName ∈ z_ws ∧ Cond.native arraycopyName ∈ z_ws ∧ Cond.static arraycopyName ∈ z_ws ∧ Cond.initialized "java/lang/System" ∈ z_ws := ⟨(z_in 634 (by decide +kernel) rfl), (z_in 475 (by decide +kernel) rfl), (z_in 474 (by decide +kernel) rfl), (z_in 97 (by decide +kernel) rfl)⟩
theorem fl_X7_15 : z_Fld RX7 15 9 2 := ⟨RX7, TX7, 17, rfl, by decide, (z_in 134 (by decide +kernel) rfl), uw_X7⟩
theorem fl_X7_25 : z_Fld RX7 25 9 5 := ⟨RX7, TX7, 17, rfl, by decide, (z_in 149 (by decide +kernel) rfl), uw_X7⟩
theorem fl_X7_31 : z_Fld RX7 31 9 7 := ⟨RX7, TX7, 17, rfl, by decide, (z_in 155 (by decide +kernel) rfl), uw_X7⟩
theorem fp_X7_62 : z_FldP RX7 62 9 8 .int false := ⟨RX7, TX7, 17, tyX7, rfl, by decide, (z_in 157 (by decide +kernel) rfl), uw_X7, tyX7_ok, nmX7, rfl, tyX7_ok 8 (by decide), fun q => by cases q⟩
theorem fl_X7_34 : z_Fld RX7 34 9 9 := ⟨RX7, TX7, 17, rfl, by decide, (z_in 161 (by decide +kernel) rfl), uw_X7⟩
theorem fl_X7_37 : z_Fld RX7 37 9 10 := ⟨RX7, TX7, 17, rfl, by decide, (z_in 163 (by decide +kernel) rfl), uw_X7⟩
theorem fl_X7_40 : z_Fld RX7 40 9 11 := ⟨RX7, TX7, 17, rfl, by decide, (z_in 165 (by decide +kernel) rfl), uw_X7⟩
theorem fl_X7_65 : z_Fld RX7 65 9 12 := ⟨RX7, TX7, 17, rfl, by decide, (z_in 168 (by decide +kernel) rfl), uw_X7⟩
theorem fp_X7_65 : z_FldP RX7 65 9 12 .boolean false := ⟨RX7, TX7, 17, tyX7, rfl, by decide, (z_in 168 (by decide +kernel) rfl), uw_X7, tyX7_ok, nmX7, rfl, tyX7_ok 12 (by decide), fun q => by cases q⟩
theorem fp_X7_69 : z_FldP RX7 69 9 13 .int false := ⟨RX7, TX7, 17, tyX7, rfl, by decide, (z_in 172 (by decide +kernel) rfl), uw_X7, tyX7_ok, nmX7, rfl, tyX7_ok 13 (by decide), fun q => by cases q⟩
theorem fl_X7_43 : z_Fld RX7 43 9 14 := ⟨RX7, TX7, 17, rfl, by decide, (z_in 175 (by decide +kernel) rfl), uw_X7⟩
theorem fl_X7_72 : z_Fld RX7 72 9 15 := ⟨RX7, TX7, 17, rfl, by decide, (z_in 179 (by decide +kernel) rfl), uw_X7⟩
theorem fp_X7_72 : z_FldP RX7 72 9 15 .int false := ⟨RX7, TX7, 17, tyX7, rfl, by decide, (z_in 179 (by decide +kernel) rfl), uw_X7, tyX7_ok, nmX7, rfl, tyX7_ok 15 (by decide), fun q => by cases q⟩
theorem fl_X7_75 : z_Fld RX7 75 9 16 := ⟨RX7, TX7, 17, rfl, by decide, (z_in 182 (by decide +kernel) rfl), uw_X7⟩
theorem fp_X7_75 : z_FldP RX7 75 9 16 .int false := ⟨RX7, TX7, 17, tyX7, rfl, by decide, (z_in 182 (by decide +kernel) rfl), uw_X7, tyX7_ok, nmX7, rfl, tyX7_ok 16 (by decide), fun q => by cases q⟩
theorem fl_X4_11 : z_Fld RX4 11 7 0 := ⟨RX4, TX4, 3, rfl, by decide, (z_in 230 (by decide +kernel) rfl), uw_X4⟩
theorem fl_X4_17 : z_Fld RX4 17 7 1 := ⟨RX4, TX4, 3, rfl, by decide, (z_in 231 (by decide +kernel) rfl), uw_X4⟩
theorem nw_X4_9 : z_New RX4 9 9 [.int 0, .null, .null, .null, .null, .null, .null, .null, .int 0, .null, .null, .null, .int 0, .int 0, .int 0, .int 0, .int 0] := ⟨RX7, TX7, 17, tyX7, rfl, uw_X7, tyX7_ok, (z_in 228 (by decide +kernel) rfl), (z_in 115 (by decide +kernel) rfl), (z_in 73 (by decide +kernel) rfl), dfl_X7, by decide, z_dfl _ (by decide)⟩
theorem k_X4_21 : Cond.methodLink RX4 21 yX7_init ∈ z_ws ∧ yX7_init.name = "<init>" ∧ Cond.instanceMethod yX7_init ∈ z_ws := ⟨(z_in 831 (by decide +kernel) rfl), rfl, (z_in 117 (by decide +kernel) rfl)⟩
theorem k_X4_22 : Cond.methodLink RX4 22 yX7_copyFrom ∈ z_ws ∧ Cond.instanceMethod yX7_copyFrom ∈ z_ws ∧ Cond.selects RX7 yX7_copyFrom yX7_copyFrom ∈ z_ws := ⟨(z_in 832 (by decide +kernel) rfl), (z_in 631 (by decide +kernel) rfl), (z_in 632 (by decide +kernel) rfl)⟩
theorem fp_X4_17 : z_FldP RX4 17 7 1 .int false := ⟨RX4, TX4, 3, tyX4, rfl, by decide, (z_in 231 (by decide +kernel) rfl), uw_X4, tyX4_ok, nmX4, rfl, tyX4_ok 1 (by decide), fun q => by cases q⟩
theorem fl_X4_26 : z_Fld RX4 26 7 2 := ⟨RX4, TX4, 3, rfl, by decide, (z_in 232 (by decide +kernel) rfl), uw_X4⟩
theorem k_X4_29 : Cond.methodLink RX4 29 yJ9_min_7cf53 ∈ z_ws ∧ Cond.static yJ9_min_7cf53 ∈ z_ws := ⟨(z_in 833 (by decide +kernel) rfl), (z_in 449 (by decide +kernel) rfl)⟩
theorem fp_X4_26 : z_FldP RX4 26 7 2 .int false := ⟨RX4, TX4, 3, tyX4, rfl, by decide, (z_in 232 (by decide +kernel) rfl), uw_X4, tyX4_ok, nmX4, rfl, tyX4_ok 2 (by decide), fun q => by cases q⟩
theorem fl_X1_72 : z_Fld RX1 72 9 0 := ⟨RX7, TX7, 17, rfl, by decide, (z_in 125 (by decide +kernel) rfl), uw_X7⟩
theorem fl_X1_76 : z_Fld RX1 76 9 1 := ⟨RX7, TX7, 17, rfl, by decide, (z_in 131 (by decide +kernel) rfl), uw_X7⟩
theorem fl_X1_79 : z_Fld RX1 79 9 2 := ⟨RX7, TX7, 17, rfl, by decide, (z_in 135 (by decide +kernel) rfl), uw_X7⟩
theorem fl_X1_82 : z_Fld RX1 82 9 3 := ⟨RX7, TX7, 17, rfl, by decide, (z_in 140 (by decide +kernel) rfl), uw_X7⟩
theorem fl_X1_15 : z_Fld RX1 15 9 4 := ⟨RX7, TX7, 17, rfl, by decide, (z_in 144 (by decide +kernel) rfl), uw_X7⟩
theorem fp_X1_72 : z_FldP RX1 72 9 0 .int false := ⟨RX7, TX7, 17, tyX7, rfl, by decide, (z_in 125 (by decide +kernel) rfl), uw_X7, tyX7_ok, nmX7, rfl, tyX7_ok 0 (by decide), fun q => by cases q⟩
theorem fl_X1_86 : z_Fld RX1 86 9 8 := ⟨RX7, TX7, 17, rfl, by decide, (z_in 158 (by decide +kernel) rfl), uw_X7⟩
theorem fl_X1_89 : z_Fld RX1 89 9 9 := ⟨RX7, TX7, 17, rfl, by decide, (z_in 162 (by decide +kernel) rfl), uw_X7⟩
theorem fl_X1_92 : z_Fld RX1 92 9 10 := ⟨RX7, TX7, 17, rfl, by decide, (z_in 164 (by decide +kernel) rfl), uw_X7⟩
theorem fl_X1_95 : z_Fld RX1 95 9 11 := ⟨RX7, TX7, 17, rfl, by decide, (z_in 166 (by decide +kernel) rfl), uw_X7⟩
theorem fp_X1_86 : z_FldP RX1 86 9 8 .int false := ⟨RX7, TX7, 17, tyX7, rfl, by decide, (z_in 158 (by decide +kernel) rfl), uw_X7, tyX7_ok, nmX7, rfl, tyX7_ok 8 (by decide), fun q => by cases q⟩
theorem k_X7_117 : Cond.methodLink RX7 117 yX7_isCovered ∈ z_ws ∧ Cond.instanceMethod yX7_isCovered ∈ z_ws ∧ Cond.selects RX7 yX7_isCovered yX7_isCovered ∈ z_ws := ⟨(z_in 862 (by decide +kernel) rfl), (z_in 863 (by decide +kernel) rfl), (z_in 864 (by decide +kernel) rfl)⟩
theorem k_X7_104 : (RX7, 104, yX9_has, "FootnoteFishery") ∈ kNest ∧ Cond.static yX9_has ∈ z_ws := ⟨by decide +kernel, (z_in 446 (by decide +kernel) rfl)⟩
theorem k_X7_111 : Cond.methodLink RX7 111 yX7_floatingWithin ∈ z_ws ∧ Cond.instanceMethod yX7_floatingWithin ∈ z_ws ∧ Cond.selects RX7 yX7_floatingWithin yX7_floatingWithin ∈ z_ws := ⟨(z_in 858 (by decide +kernel) rfl), (z_in 860 (by decide +kernel) rfl), (z_in 11 (by decide +kernel) rfl)⟩
theorem k_X7_114 : Cond.methodLink RX7 114 yX7_citedFromSet ∈ z_ws ∧ Cond.instanceMethod yX7_citedFromSet ∈ z_ws ∧ Cond.selects RX7 yX7_citedFromSet yX7_citedFromSet ∈ z_ws := ⟨(z_in 866 (by decide +kernel) rfl), (z_in 868 (by decide +kernel) rfl), (z_in 12 (by decide +kernel) rfl)⟩
theorem k_X1_98 : Cond.methodLink RX1 98 yX7_catchOf ∈ z_ws ∧ Cond.instanceMethod yX7_catchOf ∈ z_ws ∧ Cond.selects RX7 yX7_catchOf yX7_catchOf ∈ z_ws := ⟨(z_in 854 (by decide +kernel) rfl), (z_in 855 (by decide +kernel) rfl), (z_in 856 (by decide +kernel) rfl)⟩
theorem k_X1_101 : (RX1, 101, yX9_has, "FootnoteFishery") ∈ kNest ∧ Cond.static yX9_has ∈ z_ws := ⟨by decide +kernel, (z_in 446 (by decide +kernel) rfl)⟩
theorem k_X1_105 : Cond.methodLink RX1 105 yJ6_bitCount_0f7a4 ∈ z_ws ∧ Cond.static yJ6_bitCount_0f7a4 ∈ z_ws := ⟨(z_in 871 (by decide +kernel) rfl), (z_in 456 (by decide +kernel) rfl)⟩
theorem fl_X1_110 : z_Fld RX1 110 9 15 := ⟨RX7, TX7, 17, rfl, by decide, (z_in 180 (by decide +kernel) rfl), uw_X7⟩
theorem fp_X1_110 : z_FldP RX1 110 9 15 .int false := ⟨RX7, TX7, 17, tyX7, rfl, by decide, (z_in 180 (by decide +kernel) rfl), uw_X7, tyX7_ok, nmX7, rfl, tyX7_ok 15 (by decide), fun q => by cases q⟩
theorem fl_X6_35 : z_Fld RX6 35 9 0 := ⟨RX7, TX7, 17, rfl, by decide, (z_in 126 (by decide +kernel) rfl), uw_X7⟩
theorem k_X6_39 : (RX6, 39, yX9_has, "FootnoteFishery") ∈ kNest ∧ Cond.static yX9_has ∈ z_ws := ⟨by decide +kernel, (z_in 446 (by decide +kernel) rfl)⟩
theorem fl_X6_43 : z_Fld RX6 43 9 1 := ⟨RX7, TX7, 17, rfl, by decide, (z_in 132 (by decide +kernel) rfl), uw_X7⟩
theorem k_X6_46 : (RX6, 46, yX9_bit, "FootnoteFishery") ∈ kNest ∧ Cond.static yX9_bit ∈ z_ws := ⟨by decide +kernel, (z_in 443 (by decide +kernel) rfl)⟩
theorem k_X7_108 : Cond.methodLink RX7 108 yJ9_max_7cf53 ∈ z_ws ∧ Cond.static yJ9_max_7cf53 ∈ z_ws := ⟨(z_in 559 (by decide +kernel) rfl), (z_in 560 (by decide +kernel) rfl)⟩
theorem fl_X6_9 : z_Fld RX6 9 8 0 := ⟨RX6, TX6, 2, rfl, by decide, (z_in 247 (by decide +kernel) rfl), uw_X6⟩
theorem k_X6_71 : Cond.methodLink RX6 71 yJ9_max_7cf53 ∈ z_ws ∧ Cond.static yJ9_max_7cf53 ∈ z_ws := ⟨(z_in 572 (by decide +kernel) rfl), (z_in 560 (by decide +kernel) rfl)⟩
theorem bp_9 : (Int8.ofInt (9)).toInt32 = (9 : Int32) := by decide +kernel
theorem sp_198 : (Int16.ofInt (198)).toInt32 = (198 : Int32) := by decide +kernel
theorem k_X6_49 : Cond.methodLink RX6 49 yJ9_min_7cf53 ∈ z_ws ∧ Cond.static yJ9_min_7cf53 ∈ z_ws := ⟨(z_in 566 (by decide +kernel) rfl), (z_in 449 (by decide +kernel) rfl)⟩
theorem k_X6_55 : Cond.methodLink RX6 55 yJ7_fill_53178 ∈ z_ws ∧ Cond.static yJ7_fill_53178 ∈ z_ws := ⟨(z_in 567 (by decide +kernel) rfl), (z_in 121 (by decide +kernel) rfl)⟩
theorem fl_X6_61 : z_Fld RX6 61 9 2 := ⟨RX7, TX7, 17, rfl, by decide, (z_in 136 (by decide +kernel) rfl), uw_X7⟩
theorem k_X6_64 : Cond.methodLink RX6 64 yX6_tryWith ∈ z_ws ∧ Cond.instanceMethod yX6_tryWith ∈ z_ws ∧ Cond.selects RX6 yX6_tryWith yX6_tryWith ∈ z_ws := ⟨(z_in 568 (by decide +kernel) rfl), (z_in 570 (by decide +kernel) rfl), (z_in 7 (by decide +kernel) rfl)⟩
theorem k_X6_68 : Cond.methodLink RX6 68 yX6_turned ∈ z_ws ∧ Cond.static yX6_turned ∈ z_ws := ⟨(z_in 573 (by decide +kernel) rfl), (z_in 574 (by decide +kernel) rfl)⟩
theorem k_X6_18 : Cond.methodLink RX6 18 yX7_setOf ∈ z_ws ∧ Cond.instanceMethod yX7_setOf ∈ z_ws ∧ Cond.selects RX7 yX7_setOf yX7_setOf ∈ z_ws := ⟨(z_in 542 (by decide +kernel) rfl), (z_in 529 (by decide +kernel) rfl), (z_in 530 (by decide +kernel) rfl)⟩
theorem k_X6_24 : Cond.methodLink RX6 24 yX6_heldOn ∈ z_ws ∧ Cond.static yX6_heldOn ∈ z_ws := ⟨(z_in 543 (by decide +kernel) rfl), (z_in 544 (by decide +kernel) rfl)⟩
theorem k_X6_28 : Cond.methodLink RX6 28 yX7_roomOn ∈ z_ws ∧ Cond.instanceMethod yX7_roomOn ∈ z_ws ∧ Cond.selects RX7 yX7_roomOn yX7_roomOn ∈ z_ws := ⟨(z_in 548 (by decide +kernel) rfl), (z_in 549 (by decide +kernel) rfl), (z_in 550 (by decide +kernel) rfl)⟩
theorem k_X6_32 : Cond.methodLink RX6 32 yX6_chooseFrom ∈ z_ws ∧ Cond.instanceMethod yX6_chooseFrom ∈ z_ws ∧ Cond.selects RX6 yX6_chooseFrom yX6_chooseFrom ∈ z_ws := ⟨(z_in 562 (by decide +kernel) rfl), (z_in 564 (by decide +kernel) rfl), (z_in 6 (by decide +kernel) rfl)⟩
theorem fl_X1_122 : z_Fld RX1 122 9 16 := ⟨RX7, TX7, 17, rfl, by decide, (z_in 183 (by decide +kernel) rfl), uw_X7⟩
theorem fp_X1_122 : z_FldP RX1 122 9 16 .int false := ⟨RX7, TX7, 17, tyX7, rfl, by decide, (z_in 183 (by decide +kernel) rfl), uw_X7, tyX7_ok, nmX7, rfl, tyX7_ok 16 (by decide), fun q => by cases q⟩
theorem k_X1_113 : Cond.methodLink RX1 113 yX7_weightOfAll ∈ z_ws ∧ Cond.instanceMethod yX7_weightOfAll ∈ z_ws ∧ Cond.selects RX7 yX7_weightOfAll yX7_weightOfAll ∈ z_ws := ⟨(z_in 876 (by decide +kernel) rfl), (z_in 577 (by decide +kernel) rfl), (z_in 578 (by decide +kernel) rfl)⟩
theorem k_X1_58 : Cond.methodLink RX1 58 yX1_giveBack ∈ z_ws ∧ Cond.static yX1_giveBack ∈ z_ws := ⟨(z_in 877 (by decide +kernel) rfl), (z_in 878 (by decide +kernel) rfl)⟩
theorem bp_108 : (Int8.ofInt (108)).toInt32 = (108 : Int32) := by decide +kernel
theorem fl_X1_116 : z_Fld RX1 116 9 7 := ⟨RX7, TX7, 17, rfl, by decide, (z_in 156 (by decide +kernel) rfl), uw_X7⟩
theorem fl_X1_119 : z_Fld RX1 119 9 14 := ⟨RX7, TX7, 17, rfl, by decide, (z_in 177 (by decide +kernel) rfl), uw_X7⟩
theorem fp_X1_119 : z_FldP RX1 119 9 14 .int false := ⟨RX7, TX7, 17, tyX7, rfl, by decide, (z_in 177 (by decide +kernel) rfl), uw_X7, tyX7_ok, nmX7, rfl, tyX7_ok 14 (by decide), fun q => by cases q⟩
theorem k_X1_125 : Cond.methodLink RX1 125 yX7_licencePrice ∈ z_ws ∧ Cond.instanceMethod yX7_licencePrice ∈ z_ws ∧ Cond.selects RX7 yX7_licencePrice yX7_licencePrice ∈ z_ws := ⟨(z_in 884 (by decide +kernel) rfl), (z_in 688 (by decide +kernel) rfl), (z_in 689 (by decide +kernel) rfl)⟩
theorem fp_X1_129 : z_FldP RX1 129 9 12 .boolean false := ⟨RX7, TX7, 17, tyX7, rfl, by decide, (z_in 170 (by decide +kernel) rfl), uw_X7, tyX7_ok, nmX7, rfl, tyX7_ok 12 (by decide), fun q => by cases q⟩
theorem fl_X1_28 : z_Fld RX1 28 9 5 := ⟨RX7, TX7, 17, rfl, by decide, (z_in 150 (by decide +kernel) rfl), uw_X7⟩
theorem k_X1_136 : Cond.methodLink RX1 136 yX7_presentSeason ∈ z_ws ∧ Cond.instanceMethod yX7_presentSeason ∈ z_ws ∧ Cond.selects RX7 yX7_presentSeason yX7_presentSeason ∈ z_ws := ⟨(z_in 891 (by decide +kernel) rfl), (z_in 553 (by decide +kernel) rfl), (z_in 554 (by decide +kernel) rfl)⟩
theorem fl_X1_139 : z_Fld RX1 139 9 13 := ⟨RX7, TX7, 17, rfl, by decide, (z_in 173 (by decide +kernel) rfl), uw_X7⟩
theorem fp_X1_139 : z_FldP RX1 139 9 13 .int false := ⟨RX7, TX7, 17, tyX7, rfl, by decide, (z_in 173 (by decide +kernel) rfl), uw_X7, tyX7_ok, nmX7, rfl, tyX7_ok 13 (by decide), fun q => by cases q⟩
theorem k_X1_148 : Cond.methodLink RX1 148 yX1_drift ∈ z_ws ∧ Cond.static yX1_drift ∈ z_ws := ⟨(z_in 893 (by decide +kernel) rfl), (z_in 894 (by decide +kernel) rfl)⟩
theorem k_X1_142 : Cond.methodLink RX1 142 yJ7_fill_53178 ∈ z_ws ∧ Cond.static yJ7_fill_53178 ∈ z_ws := ⟨(z_in 892 (by decide +kernel) rfl), (z_in 121 (by decide +kernel) rfl)⟩
theorem k_X1_133 : Cond.methodLink RX1 133 yX1_passDay ∈ z_ws ∧ Cond.static yX1_passDay ∈ z_ws := ⟨(z_in 888 (by decide +kernel) rfl), (z_in 889 (by decide +kernel) rfl)⟩
theorem k_X1_9 : Cond.methodLink RX1 9 yX1_putNote ∈ z_ws ∧ Cond.static yX1_putNote ∈ z_ws := ⟨(z_in 837 (by decide +kernel) rfl), (z_in 838 (by decide +kernel) rfl)⟩
theorem k_X1_21 : (RX1, 21, yX9_bit, "FootnoteFishery") ∈ kNest ∧ Cond.static yX9_bit ∈ z_ws := ⟨by decide +kernel, (z_in 443 (by decide +kernel) rfl)⟩
theorem k_X1_25 : Cond.methodLink RX1 25 yX7_countCitedFrom ∈ z_ws ∧ Cond.instanceMethod yX7_countCitedFrom ∈ z_ws ∧ Cond.selects RX7 yX7_countCitedFrom yX7_countCitedFrom ∈ z_ws := ⟨(z_in 841 (by decide +kernel) rfl), (z_in 697 (by decide +kernel) rfl), (z_in 698 (by decide +kernel) rfl)⟩
theorem k_X1_31 : Cond.methodLink RX1 31 yX1_replace ∈ z_ws ∧ Cond.static yX1_replace ∈ z_ws := ⟨(z_in 842 (by decide +kernel) rfl), (z_in 843 (by decide +kernel) rfl)⟩
theorem k_X1_35 : Cond.methodLink RX1 35 yX1_putNet ∈ z_ws ∧ Cond.static yX1_putNet ∈ z_ws := ⟨(z_in 845 (by decide +kernel) rfl), (z_in 846 (by decide +kernel) rfl)⟩
theorem k_X1_39 : Cond.methodLink RX1 39 yX1_cutNet ∈ z_ws ∧ Cond.static yX1_cutNet ∈ z_ws := ⟨(z_in 848 (by decide +kernel) rfl), (z_in 849 (by decide +kernel) rfl)⟩
theorem k_X1_43 : Cond.methodLink RX1 43 yX1_haulNet ∈ z_ws ∧ Cond.static yX1_haulNet ∈ z_ws := ⟨(z_in 851 (by decide +kernel) rfl), (z_in 852 (by decide +kernel) rfl)⟩
theorem fl_X1_46 : z_Fld RX1 46 9 6 := ⟨RX7, TX7, 17, rfl, by decide, (z_in 153 (by decide +kernel) rfl), uw_X7⟩
theorem k_X1_49 : Cond.methodLink RX1 49 yX6_choose ∈ z_ws ∧ Cond.instanceMethod yX6_choose ∈ z_ws ∧ Cond.selects RX6 yX6_choose yX6_choose ∈ z_ws := ⟨(z_in 872 (by decide +kernel) rfl), (z_in 539 (by decide +kernel) rfl), (z_in 540 (by decide +kernel) rfl)⟩
theorem k_X1_55 : Cond.methodLink RX1 55 yX1_landHold ∈ z_ws ∧ Cond.static yX1_landHold ∈ z_ws := ⟨(z_in 873 (by decide +kernel) rfl), (z_in 874 (by decide +kernel) rfl)⟩
theorem k_X1_62 : Cond.methodLink RX1 62 yX7_count ∈ z_ws ∧ Cond.instanceMethod yX7_count ∈ z_ws ∧ Cond.selects RX7 yX7_count yX7_count ∈ z_ws := ⟨(z_in 880 (by decide +kernel) rfl), (z_in 525 (by decide +kernel) rfl), (z_in 526 (by decide +kernel) rfl)⟩
theorem k_X1_66 : Cond.methodLink RX1 66 yX1_payLicence ∈ z_ws ∧ Cond.static yX1_payLicence ∈ z_ws := ⟨(z_in 881 (by decide +kernel) rfl), (z_in 882 (by decide +kernel) rfl)⟩
theorem k_X1_69 : Cond.methodLink RX1 69 yX1_passDays ∈ z_ws ∧ Cond.static yX1_passDays ∈ z_ws := ⟨(z_in 885 (by decide +kernel) rfl), (z_in 886 (by decide +kernel) rfl)⟩
theorem fl_X9_12 : z_Fld RX9 12 11 0 := ⟨RX9, TX9, 9, rfl, by decide, (z_in 394 (by decide +kernel) rfl), uw_X9⟩
theorem k_X9_313 : Cond.methodLink RX9 313 yX5_judge ∈ z_ws ∧ Cond.static yX5_judge ∈ z_ws := ⟨(z_in 648 (by decide +kernel) rfl), (z_in 649 (by decide +kernel) rfl)⟩
theorem k_X9_323 : Cond.methodLink RX9 323 yX9_refuse ∈ z_ws ∧ Cond.static yX9_refuse ∈ z_ws := ⟨(z_in 704 (by decide +kernel) rfl), (z_in 705 (by decide +kernel) rfl)⟩
theorem fl_X9_22 : z_Fld RX9 22 11 2 := ⟨RX9, TX9, 9, rfl, by decide, (z_in 396 (by decide +kernel) rfl), uw_X9⟩
theorem k_X9_256 : Cond.methodLink RX9 256 yX4_remember ∈ z_ws ∧ Cond.instanceMethod yX4_remember ∈ z_ws ∧ Cond.selects RX4 yX4_remember yX4_remember ∈ z_ws := ⟨(z_in 827 (by decide +kernel) rfl), (z_in 828 (by decide +kernel) rfl), (z_in 829 (by decide +kernel) rfl)⟩
theorem fl_X9_29 : z_Fld RX9 29 11 3 := ⟨RX9, TX9, 9, rfl, by decide, (z_in 397 (by decide +kernel) rfl), uw_X9⟩
theorem k_X9_326 : Cond.methodLink RX9 326 yX1_perform ∈ z_ws ∧ Cond.static yX1_perform ∈ z_ws := ⟨(z_in 834 (by decide +kernel) rfl), (z_in 835 (by decide +kernel) rfl)⟩
theorem fl_X9_50 : z_Fld RX9 50 11 6 := ⟨RX9, TX9, 9, rfl, by decide, (z_in 400 (by decide +kernel) rfl), uw_X9⟩
theorem k_X9_319 : Cond.methodLink RX9 319 yX5_detailOf ∈ z_ws ∧ Cond.static yX5_detailOf ∈ z_ws := ⟨(z_in 693 (by decide +kernel) rfl), (z_in 694 (by decide +kernel) rfl)⟩
theorem k_X9_247 : Cond.methodLink RX9 247 yX2_keep ∈ z_ws ∧ Cond.instanceMethod yX2_keep ∈ z_ws ∧ Cond.selects RX2 yX2_keep yX2_keep ∈ z_ws := ⟨(z_in 700 (by decide +kernel) rfl), (z_in 701 (by decide +kernel) rfl), (z_in 702 (by decide +kernel) rfl)⟩
theorem k_X9_61 : Cond.methodLink RX9 61 yX9_change ∈ z_ws ∧ Cond.instanceMethod yX9_change ∈ z_ws ∧ Cond.selects RX9 yX9_change yX9_change ∈ z_ws := ⟨(z_in 644 (by decide +kernel) rfl), (z_in 646 (by decide +kernel) rfl), (z_in 9 (by decide +kernel) rfl)⟩
theorem k_L_7 : Cond.methodLink RL 7 yX9_addNote ∈ z_ws ∧ Cond.instanceMethod yX9_addNote ∈ z_ws ∧ Cond.selects RX9 yX9_addNote yX9_addNote ∈ z_ws := ⟨(z_in 640 (by decide +kernel) rfl), (z_in 641 (by decide +kernel) rfl), (z_in 642 (by decide +kernel) rfl)⟩
theorem cl_L_13 : Cond.classLink RL 13 "java/lang/IllegalArgumentException" ∈ z_ws := (z_in 638 (by decide +kernel) rfl)
theorem kb_IllegalArgumentException : Cond.castable "java/lang/IllegalArgumentException" "java/lang/IllegalArgumentException" ∈ kBad := by decide +kernel
theorem cl_L_15 : Cond.classLink RL 15 "java/lang/UnsupportedOperationException" ∈ z_ws := (z_in 639 (by decide +kernel) rfl)
theorem kb_UnsupportedOperationException : Cond.castable "java/lang/UnsupportedOperationException" "java/lang/UnsupportedOperationException" ∈ kBad := by decide +kernel
theorem nc_UnsupportedOperationException_IllegalArgumentException : ("java/lang/UnsupportedOperationException", "java/lang/IllegalArgumentException") ∈ kNc := by decide +kernel
theorem k_X10_62 : Cond.methodLink RX10 62 yX10_in ∈ z_ws ∧ Cond.static yX10_in ∈ z_ws := ⟨(z_in 1751 (by decide +kernel) rfl), (z_in 1752 (by decide +kernel) rfl)⟩
theorem fp_X10_36 : z_FldP RX10 36 12 8 .int false := ⟨RX10, TX10, 20, tyX10, rfl, by decide, (z_in 1687 (by decide +kernel) rfl), uw_X10, tyX10_ok, nmX10, rfl, tyX10_ok 8 (by decide), fun q => by cases q⟩
theorem fp_X10_39 : z_FldP RX10 39 12 7 .boolean false := ⟨RX10, TX10, 20, tyX10, rfl, by decide, (z_in 1686 (by decide +kernel) rfl), uw_X10, tyX10_ok, nmX10, rfl, tyX10_ok 7 (by decide), fun q => by cases q⟩
theorem fp_X10_43 : z_FldP RX10 43 12 9 .int false := ⟨RX10, TX10, 20, tyX10, rfl, by decide, (z_in 1688 (by decide +kernel) rfl), uw_X10, tyX10_ok, nmX10, rfl, tyX10_ok 9 (by decide), fun q => by cases q⟩
theorem fp_X10_46 : z_FldP RX10 46 12 10 .int false := ⟨RX10, TX10, 20, tyX10, rfl, by decide, (z_in 1689 (by decide +kernel) rfl), uw_X10, tyX10_ok, nmX10, rfl, tyX10_ok 10 (by decide), fun q => by cases q⟩
theorem fp_X10_49 : z_FldP RX10 49 12 11 .int false := ⟨RX10, TX10, 20, tyX10, rfl, by decide, (z_in 1690 (by decide +kernel) rfl), uw_X10, tyX10_ok, nmX10, rfl, tyX10_ok 11 (by decide), fun q => by cases q⟩
theorem fl_X10_52 : z_Fld RX10 52 12 6 := ⟨RX10, TX10, 20, rfl, by decide, (z_in 1685 (by decide +kernel) rfl), uw_X10⟩
theorem fl_X10_55 : z_Fld RX10 55 12 5 := ⟨RX10, TX10, 20, rfl, by decide, (z_in 1684 (by decide +kernel) rfl), uw_X10⟩
theorem fl_X10_13 : z_Fld RX10 13 12 1 := ⟨RX10, TX10, 20, rfl, by decide, (z_in 1680 (by decide +kernel) rfl), uw_X10⟩
theorem k_X10_58 : Cond.methodLink RX10 58 yX10_copies ∈ z_ws ∧ Cond.static yX10_copies ∈ z_ws := ⟨(z_in 1766 (by decide +kernel) rfl), (z_in 1767 (by decide +kernel) rfl)⟩
theorem fp_X10_55 : z_FldP RX10 55 12 5 .int false := ⟨RX10, TX10, 20, tyX10, rfl, by decide, (z_in 1684 (by decide +kernel) rfl), uw_X10, tyX10_ok, nmX10, rfl, tyX10_ok 5 (by decide), fun q => by cases q⟩
theorem sp_693 : (Int16.ofInt (693)).toInt32 = (693 : Int32) := by decide +kernel
theorem bp_44 : (Int8.ofInt (44)).toInt32 = (44 : Int32) := by decide +kernel
theorem k_X10_77 : Cond.methodLink RX10 77 yX10_isPage ∈ z_ws ∧ Cond.static yX10_isPage ∈ z_ws := ⟨(z_in 1748 (by decide +kernel) rfl), (z_in 1749 (by decide +kernel) rfl)⟩
theorem k_X10_70 : Cond.methodLink RX10 70 yX10_fails ∈ z_ws ∧ Cond.instanceMethod yX10_fails ∈ z_ws ∧ Cond.selects RX10 yX10_fails yX10_fails ∈ z_ws := ⟨(z_in 1754 (by decide +kernel) rfl), (z_in 1756 (by decide +kernel) rfl), (z_in 27 (by decide +kernel) rfl)⟩
theorem k_X10_84 : Cond.methodLink RX10 84 yX10_keeps ∈ z_ws ∧ Cond.instanceMethod yX10_keeps ∈ z_ws ∧ Cond.selects RX10 yX10_keeps yX10_keeps ∈ z_ws := ⟨(z_in 1762 (by decide +kernel) rfl), (z_in 1764 (by decide +kernel) rfl), (z_in 29 (by decide +kernel) rfl)⟩
theorem k_X10_88 : Cond.methodLink RX10 88 yX10_lays ∈ z_ws ∧ Cond.instanceMethod yX10_lays ∈ z_ws ∧ Cond.selects RX10 yX10_lays yX10_lays ∈ z_ws := ⟨(z_in 1769 (by decide +kernel) rfl), (z_in 1771 (by decide +kernel) rfl), (z_in 30 (by decide +kernel) rfl)⟩
theorem k_X10_80 : Cond.methodLink RX10 80 yX10_denies ∈ z_ws ∧ Cond.instanceMethod yX10_denies ∈ z_ws ∧ Cond.selects RX10 yX10_denies yX10_denies ∈ z_ws := ⟨(z_in 1758 (by decide +kernel) rfl), (z_in 1760 (by decide +kernel) rfl), (z_in 28 (by decide +kernel) rfl)⟩
theorem fl_X10_36 : z_Fld RX10 36 12 8 := ⟨RX10, TX10, 20, rfl, by decide, (z_in 1687 (by decide +kernel) rfl), uw_X10⟩
theorem k_L_17 : Cond.methodLink RL 17 yX9_cite ∈ z_ws ∧ Cond.instanceMethod yX9_cite ∈ z_ws ∧ Cond.selects RX9 yX9_cite yX9_cite ∈ z_ws := ⟨(z_in 900 (by decide +kernel) rfl), (z_in 901 (by decide +kernel) rfl), (z_in 902 (by decide +kernel) rfl)⟩
theorem cl_L_20 : Cond.classLink RL 20 "java/util/NoSuchElementException" ∈ z_ws := (z_in 899 (by decide +kernel) rfl)
theorem kb_NoSuchElementException : Cond.castable "java/util/NoSuchElementException" "java/util/NoSuchElementException" ∈ kBad := by decide +kernel
theorem nc_IllegalArgumentException_NoSuchElementException : ("java/lang/IllegalArgumentException", "java/util/NoSuchElementException") ∈ kNc := by decide +kernel
theorem nc_UnsupportedOperationException_NoSuchElementException : ("java/lang/UnsupportedOperationException", "java/util/NoSuchElementException") ∈ kNc := by decide +kernel
theorem k_X10_66 : Cond.methodLink RX10 66 yX10_isNote ∈ z_ws ∧ Cond.instanceMethod yX10_isNote ∈ z_ws ∧ Cond.selects RX10 yX10_isNote yX10_isNote ∈ z_ws := ⟨(z_in 1785 (by decide +kernel) rfl), (z_in 1787 (by decide +kernel) rfl), (z_in 33 (by decide +kernel) rfl)⟩
theorem k_X10_73 : Cond.methodLink RX10 73 yX10_of ∈ z_ws ∧ Cond.instanceMethod yX10_of ∈ z_ws ∧ Cond.selects RX10 yX10_of yX10_of ∈ z_ws := ⟨(z_in 1793 (by decide +kernel) rfl), (z_in 1795 (by decide +kernel) rfl), (z_in 35 (by decide +kernel) rfl)⟩
theorem k_X10_92 : Cond.methodLink RX10 92 yX10_areNone ∈ z_ws ∧ Cond.instanceMethod yX10_areNone ∈ z_ws ∧ Cond.selects RX10 yX10_areNone yX10_areNone ∈ z_ws := ⟨(z_in 1781 (by decide +kernel) rfl), (z_in 1783 (by decide +kernel) rfl), (z_in 32 (by decide +kernel) rfl)⟩
theorem k_X10_96 : Cond.methodLink RX10 96 yX10_isCiting ∈ z_ws ∧ Cond.instanceMethod yX10_isCiting ∈ z_ws ∧ Cond.selects RX10 yX10_isCiting yX10_isCiting ∈ z_ws := ⟨(z_in 1789 (by decide +kernel) rfl), (z_in 1791 (by decide +kernel) rfl), (z_in 34 (by decide +kernel) rfl)⟩
theorem k_X10_99 : Cond.methodLink RX10 99 yX10_bits ∈ z_ws ∧ Cond.static yX10_bits ∈ z_ws := ⟨(z_in 1797 (by decide +kernel) rfl), (z_in 1798 (by decide +kernel) rfl)⟩
theorem k_X10_103 : Cond.methodLink RX10 103 yX10_turns ∈ z_ws ∧ Cond.instanceMethod yX10_turns ∈ z_ws ∧ Cond.selects RX10 yX10_turns yX10_turns ∈ z_ws := ⟨(z_in 1777 (by decide +kernel) rfl), (z_in 1779 (by decide +kernel) rfl), (z_in 31 (by decide +kernel) rfl)⟩
theorem k_L_22 : Cond.methodLink RL 22 yX9_uncite ∈ z_ws ∧ Cond.instanceMethod yX9_uncite ∈ z_ws ∧ Cond.selects RX9 yX9_uncite yX9_uncite ∈ z_ws := ⟨(z_in 907 (by decide +kernel) rfl), (z_in 908 (by decide +kernel) rfl), (z_in 909 (by decide +kernel) rfl)⟩
theorem fl_X9_65 : z_Fld RX9 65 9 0 := ⟨RX7, TX7, 17, rfl, by decide, (z_in 129 (by decide +kernel) rfl), uw_X7⟩
theorem k_X9_116 : Cond.methodLink RX9 116 yX7_hasNote ∈ z_ws ∧ Cond.instanceMethod yX7_hasNote ∈ z_ws ∧ Cond.selects RX7 yX7_hasNote yX7_hasNote ∈ z_ws := ⟨(z_in 922 (by decide +kernel) rfl), (z_in 665 (by decide +kernel) rfl), (z_in 666 (by decide +kernel) rfl)⟩
theorem k_X9_69 : Cond.methodLink RX9 69 yX9_needNote ∈ z_ws ∧ Cond.instanceMethod yX9_needNote ∈ z_ws ∧ Cond.selects RX9 yX9_needNote yX9_needNote ∈ z_ws := ⟨(z_in 918 (by decide +kernel) rfl), (z_in 920 (by decide +kernel) rfl), (z_in 13 (by decide +kernel) rfl)⟩
theorem fl_X9_73 : z_Fld RX9 73 9 1 := ⟨RX7, TX7, 17, rfl, by decide, (z_in 133 (by decide +kernel) rfl), uw_X7⟩
theorem k_L_25 : Cond.methodLink RL 25 yX9_pageOf ∈ z_ws ∧ Cond.instanceMethod yX9_pageOf ∈ z_ws ∧ Cond.selects RX9 yX9_pageOf yX9_pageOf ∈ z_ws := ⟨(z_in 914 (by decide +kernel) rfl), (z_in 915 (by decide +kernel) rfl), (z_in 916 (by decide +kernel) rfl)⟩
theorem k_X10_107 : Cond.methodLink RX10 107 yX10_isNone ∈ z_ws ∧ Cond.instanceMethod yX10_isNone ∈ z_ws ∧ Cond.selects RX10 yX10_isNone yX10_isNone ∈ z_ws := ⟨(z_in 1812 (by decide +kernel) rfl), (z_in 1814 (by decide +kernel) rfl), (z_in 36 (by decide +kernel) rfl)⟩
theorem fl_X9_77 : z_Fld RX9 77 9 2 := ⟨RX7, TX7, 17, rfl, by decide, (z_in 137 (by decide +kernel) rfl), uw_X7⟩
theorem k_L_29 : Cond.methodLink RL 29 yX9_weightOf ∈ z_ws ∧ Cond.instanceMethod yX9_weightOf ∈ z_ws ∧ Cond.selects RX9 yX9_weightOf yX9_weightOf ∈ z_ws := ⟨(z_in 926 (by decide +kernel) rfl), (z_in 927 (by decide +kernel) rfl), (z_in 928 (by decide +kernel) rfl)⟩
theorem fl_X9_80 : z_Fld RX9 80 9 3 := ⟨RX7, TX7, 17, rfl, by decide, (z_in 142 (by decide +kernel) rfl), uw_X7⟩
theorem k_L_32 : Cond.methodLink RL 32 yX9_stateOf ∈ z_ws ∧ Cond.instanceMethod yX9_stateOf ∈ z_ws ∧ Cond.selects RX9 yX9_stateOf yX9_stateOf ∈ z_ws := ⟨(z_in 933 (by decide +kernel) rfl), (z_in 934 (by decide +kernel) rfl), (z_in 935 (by decide +kernel) rfl)⟩
theorem k_X10_110 : Cond.methodLink RX10 110 yX10_sign ∈ z_ws ∧ Cond.instanceMethod yX10_sign ∈ z_ws ∧ Cond.selects RX10 yX10_sign yX10_sign ∈ z_ws := ⟨(z_in 1824 (by decide +kernel) rfl), (z_in 1826 (by decide +kernel) rfl), (z_in 37 (by decide +kernel) rfl)⟩
theorem bp_32 : (Int8.ofInt (32)).toInt32 = (32 : Int32) := by decide +kernel
theorem k_X9_84 : Cond.methodLink RX9 84 yX7_countCiting ∈ z_ws ∧ Cond.instanceMethod yX7_countCiting ∈ z_ws ∧ Cond.selects RX7 yX7_countCiting yX7_countCiting ∈ z_ws := ⟨(z_in 944 (by decide +kernel) rfl), (z_in 499 (by decide +kernel) rfl), (z_in 500 (by decide +kernel) rfl)⟩
theorem k_L_36 : Cond.methodLink RL 36 yX9_citedBy ∈ z_ws ∧ Cond.instanceMethod yX9_citedBy ∈ z_ws ∧ Cond.selects RX9 yX9_citedBy yX9_citedBy ∈ z_ws := ⟨(z_in 940 (by decide +kernel) rfl), (z_in 941 (by decide +kernel) rfl), (z_in 942 (by decide +kernel) rfl)⟩
theorem k_X10_114 : Cond.methodLink RX10 114 yX10_cited ∈ z_ws ∧ Cond.instanceMethod yX10_cited ∈ z_ws ∧ Cond.selects RX10 yX10_cited yX10_cited ∈ z_ws := ⟨(z_in 1832 (by decide +kernel) rfl), (z_in 1834 (by decide +kernel) rfl), (z_in 38 (by decide +kernel) rfl)⟩
theorem fl_X9_88 : z_Fld RX9 88 9 4 := ⟨RX7, TX7, 17, rfl, by decide, (z_in 148 (by decide +kernel) rfl), uw_X7⟩
theorem k_X9_91 : Cond.methodLink RX9 91 yX9_has ∈ z_ws ∧ Cond.static yX9_has ∈ z_ws := ⟨(z_in 952 (by decide +kernel) rfl), (z_in 446 (by decide +kernel) rfl)⟩
theorem k_L_39 : Cond.methodLink RL 39 yX9_doesCite ∈ z_ws ∧ Cond.instanceMethod yX9_doesCite ∈ z_ws ∧ Cond.selects RX9 yX9_doesCite yX9_doesCite ∈ z_ws := ⟨(z_in 948 (by decide +kernel) rfl), (z_in 949 (by decide +kernel) rfl), (z_in 950 (by decide +kernel) rfl)⟩
theorem fl_X0_39 : z_Fld RX0 39 9 4 := ⟨RX7, TX7, 17, rfl, by decide, (z_in 145 (by decide +kernel) rfl), uw_X7⟩
theorem fl_X0_9 : z_Fld RX0 9 4 0 := ⟨RX0, TX0, 5, rfl, by decide, (z_in 279 (by decide +kernel) rfl), uw_X0⟩
theorem ar_X0_44 : Cond.methodLink RX0 44 arraycopyName ∈ z_ws ∧ Cond.native arraycopyName ∈ z_ws ∧ Cond.static arraycopyName ∈ z_ws ∧ Cond.initialized "java/lang/System" ∈ z_ws := ⟨(z_in 473 (by decide +kernel) rfl), (z_in 475 (by decide +kernel) rfl), (z_in 474 (by decide +kernel) rfl), (z_in 97 (by decide +kernel) rfl)⟩
theorem fl_X0_50 : z_Fld RX0 50 9 0 := ⟨RX7, TX7, 17, rfl, by decide, (z_in 127 (by decide +kernel) rfl), uw_X7⟩
theorem k_X0_35 : (RX0, 35, yX9_has, "FootnoteFishery") ∈ kNest ∧ Cond.static yX9_has ∈ z_ws := ⟨by decide +kernel, (z_in 446 (by decide +kernel) rfl)⟩
theorem k_X0_31 : Cond.methodLink RX0 31 yX0_fillReached ∈ z_ws ∧ Cond.instanceMethod yX0_fillReached ∈ z_ws ∧ Cond.selects RX0 yX0_fillReached yX0_fillReached ∈ z_ws := ⟨(z_in 469 (by decide +kernel) rfl), (z_in 471 (by decide +kernel) rfl), (z_in 1 (by decide +kernel) rfl)⟩
theorem fl_X9_36 : z_Fld RX9 36 11 4 := ⟨RX9, TX9, 9, rfl, by decide, (z_in 398 (by decide +kernel) rfl), uw_X9⟩
theorem k_X9_95 : Cond.methodLink RX9 95 yX0_leadsTo ∈ z_ws ∧ Cond.instanceMethod yX0_leadsTo ∈ z_ws ∧ Cond.selects RX0 yX0_leadsTo yX0_leadsTo ∈ z_ws := ⟨(z_in 960 (by decide +kernel) rfl), (z_in 961 (by decide +kernel) rfl), (z_in 962 (by decide +kernel) rfl)⟩
theorem k_L_43 : Cond.methodLink RL 43 yX9_reaches ∈ z_ws ∧ Cond.instanceMethod yX9_reaches ∈ z_ws ∧ Cond.selects RX9 yX9_reaches yX9_reaches ∈ z_ws := ⟨(z_in 956 (by decide +kernel) rfl), (z_in 957 (by decide +kernel) rfl), (z_in 958 (by decide +kernel) rfl)⟩
theorem k_X10_117 : Cond.methodLink RX10 117 yX10_reached ∈ z_ws ∧ Cond.instanceMethod yX10_reached ∈ z_ws ∧ Cond.selects RX10 yX10_reached yX10_reached ∈ z_ws := ⟨(z_in 1844 (by decide +kernel) rfl), (z_in 1846 (by decide +kernel) rfl), (z_in 39 (by decide +kernel) rfl)⟩
theorem fl_X3_31 : z_Fld RX3 31 9 0 := ⟨RX7, TX7, 17, rfl, by decide, (z_in 124 (by decide +kernel) rfl), uw_X7⟩
theorem fl_X3_25 : z_Fld RX3 25 6 2 := ⟨RX3, TX3, 4, rfl, by decide, (z_in 268 (by decide +kernel) rfl), uw_X3⟩
theorem k_X3_47 : (RX3, 47, yX9_has, "FootnoteFishery") ∈ kNest ∧ Cond.static yX9_has ∈ z_ws := ⟨by decide +kernel, (z_in 446 (by decide +kernel) rfl)⟩
theorem fl_X3_9 : z_Fld RX3 9 6 0 := ⟨RX3, TX3, 4, rfl, by decide, (z_in 266 (by decide +kernel) rfl), uw_X3⟩
theorem k_X3_40 : (RX3, 40, yX9_bit, "FootnoteFishery") ∈ kNest ∧ Cond.static yX9_bit ∈ z_ws := ⟨by decide +kernel, (z_in 443 (by decide +kernel) rfl)⟩
theorem fp_X3_25 : z_FldP RX3 25 6 2 .int false := ⟨RX3, TX3, 4, tyX3, rfl, by decide, (z_in 268 (by decide +kernel) rfl), uw_X3, tyX3_ok, nmX3, rfl, tyX3_ok 2 (by decide), fun q => by cases q⟩
theorem k_X3_61 : Cond.methodLink RX3 61 yJ6_bitCount_0f7a4 ∈ z_ws ∧ Cond.static yJ6_bitCount_0f7a4 ∈ z_ws := ⟨(z_in 455 (by decide +kernel) rfl), (z_in 456 (by decide +kernel) rfl)⟩
theorem fl_X3_28 : z_Fld RX3 28 6 3 := ⟨RX3, TX3, 4, rfl, by decide, (z_in 269 (by decide +kernel) rfl), uw_X3⟩
theorem fp_X3_28 : z_FldP RX3 28 6 3 .int false := ⟨RX3, TX3, 4, tyX3, rfl, by decide, (z_in 269 (by decide +kernel) rfl), uw_X3, tyX3_ok, nmX3, rfl, tyX3_ok 3 (by decide), fun q => by cases q⟩
theorem fl_X3_21 : z_Fld RX3 21 6 1 := ⟨RX3, TX3, 4, rfl, by decide, (z_in 267 (by decide +kernel) rfl), uw_X3⟩
theorem fp_X3_21 : z_FldP RX3 21 6 1 .int false := ⟨RX3, TX3, 4, tyX3, rfl, by decide, (z_in 267 (by decide +kernel) rfl), uw_X3, tyX3_ok, nmX3, rfl, tyX3_ok 1 (by decide), fun q => by cases q⟩
theorem fl_X3_44 : z_Fld RX3 44 9 4 := ⟨RX7, TX7, 17, rfl, by decide, (z_in 146 (by decide +kernel) rfl), uw_X7⟩
theorem k_X3_51 : Cond.methodLink RX3 51 yJ9_min_7cf53 ∈ z_ws ∧ Cond.static yJ9_min_7cf53 ∈ z_ws := ⟨(z_in 448 (by decide +kernel) rfl), (z_in 449 (by decide +kernel) rfl)⟩
theorem k_X3_36 : Cond.methodLink RX3 36 yX3_visit ∈ z_ws ∧ Cond.static yX3_visit ∈ z_ws := ⟨(z_in 439 (by decide +kernel) rfl), (z_in 440 (by decide +kernel) rfl)⟩
theorem k_X3_57 : Cond.methodLink RX3 57 yX3_close ∈ z_ws ∧ Cond.instanceMethod yX3_close ∈ z_ws ∧ Cond.selects RX3 yX3_close yX3_close ∈ z_ws := ⟨(z_in 451 (by decide +kernel) rfl), (z_in 453 (by decide +kernel) rfl), (z_in 0 (by decide +kernel) rfl)⟩
theorem k_X3_15 : Cond.methodLink RX3 15 yJ7_fill_53178 ∈ z_ws ∧ Cond.static yJ7_fill_53178 ∈ z_ws := ⟨(z_in 438 (by decide +kernel) rfl), (z_in 121 (by decide +kernel) rfl)⟩
theorem fl_X0_27 : z_Fld RX0 27 4 4 := ⟨RX0, TX0, 5, rfl, by decide, (z_in 283 (by decide +kernel) rfl), uw_X0⟩
theorem k_X0_54 : Cond.methodLink RX0 54 yX3_run ∈ z_ws ∧ Cond.instanceMethod yX3_run ∈ z_ws ∧ Cond.selects RX3 yX3_run yX3_run ∈ z_ws := ⟨(z_in 434 (by decide +kernel) rfl), (z_in 435 (by decide +kernel) rfl), (z_in 436 (by decide +kernel) rfl)⟩
theorem k_X9_99 : Cond.methodLink RX9 99 yX0_countByDepth ∈ z_ws ∧ Cond.instanceMethod yX0_countByDepth ∈ z_ws ∧ Cond.selects RX0 yX0_countByDepth yX0_countByDepth ∈ z_ws := ⟨(z_in 430 (by decide +kernel) rfl), (z_in 431 (by decide +kernel) rfl), (z_in 432 (by decide +kernel) rfl)⟩
theorem k_X10_120 : Cond.methodLink RX10 120 yX10_circle ∈ z_ws ∧ Cond.instanceMethod yX10_circle ∈ z_ws ∧ Cond.selects RX10 yX10_circle yX10_circle ∈ z_ws := ⟨(z_in 1856 (by decide +kernel) rfl), (z_in 1858 (by decide +kernel) rfl), (z_in 41 (by decide +kernel) rfl)⟩
theorem k_X10_123 : Cond.methodLink RX10 123 yX10_rounds ∈ z_ws ∧ Cond.instanceMethod yX10_rounds ∈ z_ws ∧ Cond.selects RX10 yX10_rounds yX10_rounds ∈ z_ws := ⟨(z_in 1852 (by decide +kernel) rfl), (z_in 1854 (by decide +kernel) rfl), (z_in 40 (by decide +kernel) rfl)⟩
theorem k_X0_62 : (RX0, 62, yX9_bit, "FootnoteFishery") ∈ kNest ∧ Cond.static yX9_bit ∈ z_ws := ⟨by decide +kernel, (z_in 443 (by decide +kernel) rfl)⟩
theorem k_X0_58 : Cond.methodLink RX0 58 yX0_circleOf ∈ z_ws ∧ Cond.instanceMethod yX0_circleOf ∈ z_ws ∧ Cond.selects RX0 yX0_circleOf yX0_circleOf ∈ z_ws := ⟨(z_in 477 (by decide +kernel) rfl), (z_in 479 (by decide +kernel) rfl), (z_in 2 (by decide +kernel) rfl)⟩
theorem k_X9_103 : Cond.methodLink RX9 103 yX0_countByTable ∈ z_ws ∧ Cond.instanceMethod yX0_countByTable ∈ z_ws ∧ Cond.selects RX0 yX0_countByTable yX0_countByTable ∈ z_ws := ⟨(z_in 465 (by decide +kernel) rfl), (z_in 466 (by decide +kernel) rfl), (z_in 467 (by decide +kernel) rfl)⟩
theorem k_X0_66 : Cond.methodLink RX0 66 yJ6_bitCount_0f7a4 ∈ z_ws ∧ Cond.static yJ6_bitCount_0f7a4 ∈ z_ws := ⟨(z_in 975 (by decide +kernel) rfl), (z_in 456 (by decide +kernel) rfl)⟩
theorem k_X0_71 : Cond.methodLink RX0 71 yJ9_max_7cf53 ∈ z_ws ∧ Cond.static yJ9_max_7cf53 ∈ z_ws := ⟨(z_in 976 (by decide +kernel) rfl), (z_in 560 (by decide +kernel) rfl)⟩
theorem k_X9_106 : Cond.methodLink RX9 106 yX0_sizeAround ∈ z_ws ∧ Cond.instanceMethod yX0_sizeAround ∈ z_ws ∧ Cond.selects RX0 yX0_sizeAround yX0_sizeAround ∈ z_ws := ⟨(z_in 971 (by decide +kernel) rfl), (z_in 972 (by decide +kernel) rfl), (z_in 973 (by decide +kernel) rfl)⟩
theorem k_L_46 : Cond.methodLink RL 46 yX9_circleSize ∈ z_ws ∧ Cond.instanceMethod yX9_circleSize ∈ z_ws ∧ Cond.selects RX9 yX9_circleSize yX9_circleSize ∈ z_ws := ⟨(z_in 967 (by decide +kernel) rfl), (z_in 968 (by decide +kernel) rfl), (z_in 969 (by decide +kernel) rfl)⟩
theorem fl_X0_18 : z_Fld RX0 18 4 2 := ⟨RX0, TX0, 5, rfl, by decide, (z_in 281 (by decide +kernel) rfl), uw_X0⟩
theorem k_X0_89 : Cond.methodLink RX0 89 yX7_countCiting ∈ z_ws ∧ Cond.instanceMethod yX7_countCiting ∈ z_ws ∧ Cond.selects RX7 yX7_countCiting yX7_countCiting ∈ z_ws := ⟨(z_in 498 (by decide +kernel) rfl), (z_in 499 (by decide +kernel) rfl), (z_in 500 (by decide +kernel) rfl)⟩
theorem fl_X0_96 : z_Fld RX0 96 9 2 := ⟨RX7, TX7, 17, rfl, by decide, (z_in 138 (by decide +kernel) rfl), uw_X7⟩
theorem k_X0_80 : Cond.methodLink RX0 80 yX0_fillCiting ∈ z_ws ∧ Cond.instanceMethod yX0_fillCiting ∈ z_ws ∧ Cond.selects RX0 yX0_fillCiting yX0_fillCiting ∈ z_ws := ⟨(z_in 494 (by decide +kernel) rfl), (z_in 496 (by decide +kernel) rfl), (z_in 4 (by decide +kernel) rfl)⟩
theorem fl_X0_15 : z_Fld RX0 15 4 1 := ⟨RX0, TX0, 5, rfl, by decide, (z_in 280 (by decide +kernel) rfl), uw_X0⟩
theorem k_X0_92 : Cond.methodLink RX0 92 yX0_comesBefore ∈ z_ws ∧ Cond.instanceMethod yX0_comesBefore ∈ z_ws ∧ Cond.selects RX0 yX0_comesBefore yX0_comesBefore ∈ z_ws := ⟨(z_in 503 (by decide +kernel) rfl), (z_in 505 (by decide +kernel) rfl), (z_in 5 (by decide +kernel) rfl)⟩
theorem k_X0_77 : Cond.methodLink RX0 77 yX0_sortNotes ∈ z_ws ∧ Cond.instanceMethod yX0_sortNotes ∈ z_ws ∧ Cond.selects RX0 yX0_sortNotes yX0_sortNotes ∈ z_ws := ⟨(z_in 490 (by decide +kernel) rfl), (z_in 492 (by decide +kernel) rfl), (z_in 3 (by decide +kernel) rfl)⟩
theorem k_X9_110 : Cond.methodLink RX9 110 yX0_indexByOrder ∈ z_ws ∧ Cond.instanceMethod yX0_indexByOrder ∈ z_ws ∧ Cond.selects RX0 yX0_indexByOrder yX0_indexByOrder ∈ z_ws := ⟨(z_in 486 (by decide +kernel) rfl), (z_in 487 (by decide +kernel) rfl), (z_in 488 (by decide +kernel) rfl)⟩
theorem k_X10_127 : Cond.methodLink RX10 127 yX10_indexNow ∈ z_ws ∧ Cond.instanceMethod yX10_indexNow ∈ z_ws ∧ Cond.selects RX10 yX10_indexNow yX10_indexNow ∈ z_ws := ⟨(z_in 1872 (by decide +kernel) rfl), (z_in 1874 (by decide +kernel) rfl), (z_in 42 (by decide +kernel) rfl)⟩
theorem fl_X0_21 : z_Fld RX0 21 4 3 := ⟨RX0, TX0, 5, rfl, by decide, (z_in 282 (by decide +kernel) rfl), uw_X0⟩
theorem k_X0_83 : Cond.methodLink RX0 83 yJ7_fill_53178 ∈ z_ws ∧ Cond.static yJ7_fill_53178 ∈ z_ws := ⟨(z_in 515 (by decide +kernel) rfl), (z_in 121 (by decide +kernel) rfl)⟩
theorem k_X9_113 : Cond.methodLink RX9 113 yX0_indexByTally ∈ z_ws ∧ Cond.instanceMethod yX0_indexByTally ∈ z_ws ∧ Cond.selects RX0 yX0_indexByTally yX0_indexByTally ∈ z_ws := ⟨(z_in 511 (by decide +kernel) rfl), (z_in 512 (by decide +kernel) rfl), (z_in 513 (by decide +kernel) rfl)⟩
theorem k_X9_127 : Cond.methodLink RX9 127 yX0_noteAt ∈ z_ws ∧ Cond.instanceMethod yX0_noteAt ∈ z_ws ∧ Cond.selects RX0 yX0_noteAt yX0_noteAt ∈ z_ws := ⟨(z_in 985 (by decide +kernel) rfl), (z_in 986 (by decide +kernel) rfl), (z_in 987 (by decide +kernel) rfl)⟩
theorem th_X9_120_122_124 : z_Thr RX9 "java/util/NoSuchElementException" 120 122 124 := ⟨"no such rank", 10, 13, ⟨#[0x2a, 0x2b, 0xb7, 0, 13, 0xb1]⟩, "java/lang/RuntimeException", ["java/lang/Exception"], by decide +kernel, by decide +kernel, by decide, by decide +kernel, by decide +kernel, by decide +kernel, by decide +kernel, (z_in 779 (by decide +kernel) rfl), (z_in 94 (by decide +kernel) rfl), by decide +kernel, by decide +kernel⟩
theorem k_L_49 : Cond.methodLink RL 49 yX9_noteByCitations ∈ z_ws ∧ Cond.instanceMethod yX9_noteByCitations ∈ z_ws ∧ Cond.selects RX9 yX9_noteByCitations yX9_noteByCitations ∈ z_ws := ⟨(z_in 980 (by decide +kernel) rfl), (z_in 981 (by decide +kernel) rfl), (z_in 982 (by decide +kernel) rfl)⟩
theorem k_X10_130 : Cond.methodLink RX10 130 yX10_isAhead ∈ z_ws ∧ Cond.instanceMethod yX10_isAhead ∈ z_ws ∧ Cond.selects RX10 yX10_isAhead yX10_isAhead ∈ z_ws := ⟨(z_in 1884 (by decide +kernel) rfl), (z_in 1886 (by decide +kernel) rfl), (z_in 43 (by decide +kernel) rfl)⟩
theorem k_L_52 : Cond.methodLink RL 52 yX9_setCurrent ∈ z_ws ∧ Cond.instanceMethod yX9_setCurrent ∈ z_ws ∧ Cond.selects RX9 yX9_setCurrent yX9_setCurrent ∈ z_ws := ⟨(z_in 992 (by decide +kernel) rfl), (z_in 993 (by decide +kernel) rfl), (z_in 994 (by decide +kernel) rfl)⟩
theorem k_L_55 : Cond.methodLink RL 55 yX9_setQuota ∈ z_ws ∧ Cond.instanceMethod yX9_setQuota ∈ z_ws ∧ Cond.selects RX9 yX9_setQuota yX9_setQuota ∈ z_ws := ⟨(z_in 999 (by decide +kernel) rfl), (z_in 1000 (by decide +kernel) rfl), (z_in 1001 (by decide +kernel) rfl)⟩
theorem k_X9_352 : Cond.methodLink RX9 352 yX9_isPage ∈ z_ws ∧ Cond.static yX9_isPage ∈ z_ws := ⟨(z_in 1013 (by decide +kernel) rfl), (z_in 655 (by decide +kernel) rfl)⟩
theorem th_X9_232_355_236 : z_Thr RX9 "java/lang/IllegalArgumentException" 232 355 236 := ⟨"no such page", 12, 7, ⟨#[0x2a, 0x2b, 0xb7, 0, 7, 0xb1]⟩, "java/lang/RuntimeException", ["java/lang/Exception"], by decide +kernel, by decide +kernel, by decide, by decide +kernel, by decide +kernel, by decide +kernel, by decide +kernel, (z_in 707 (by decide +kernel) rfl), (z_in 93 (by decide +kernel) rfl), by decide +kernel, by decide +kernel⟩
theorem k_X9_130 : Cond.methodLink RX9 130 yX9_needPage ∈ z_ws ∧ Cond.static yX9_needPage ∈ z_ws := ⟨(z_in 1010 (by decide +kernel) rfl), (z_in 1011 (by decide +kernel) rfl)⟩
theorem fl_X9_133 : z_Fld RX9 133 9 5 := ⟨RX7, TX7, 17, rfl, by decide, (z_in 151 (by decide +kernel) rfl), uw_X7⟩
theorem k_L_58 : Cond.methodLink RL 58 yX9_current ∈ z_ws ∧ Cond.instanceMethod yX9_current ∈ z_ws ∧ Cond.selects RX9 yX9_current yX9_current ∈ z_ws := ⟨(z_in 1006 (by decide +kernel) rfl), (z_in 1007 (by decide +kernel) rfl), (z_in 1008 (by decide +kernel) rfl)⟩
theorem k_X10_133 : Cond.methodLink RX10 133 yX10_ofPage ∈ z_ws ∧ Cond.instanceMethod yX10_ofPage ∈ z_ws ∧ Cond.selects RX10 yX10_ofPage yX10_ofPage ∈ z_ws := ⟨(z_in 1900 (by decide +kernel) rfl), (z_in 1902 (by decide +kernel) rfl), (z_in 44 (by decide +kernel) rfl)⟩
theorem fl_X9_136 : z_Fld RX9 136 9 6 := ⟨RX7, TX7, 17, rfl, by decide, (z_in 154 (by decide +kernel) rfl), uw_X7⟩
theorem k_L_61 : Cond.methodLink RL 61 yX9_quota ∈ z_ws ∧ Cond.instanceMethod yX9_quota ∈ z_ws ∧ Cond.selects RX9 yX9_quota yX9_quota ∈ z_ws := ⟨(z_in 1018 (by decide +kernel) rfl), (z_in 1019 (by decide +kernel) rfl), (z_in 1020 (by decide +kernel) rfl)⟩
theorem k_X9_139 : Cond.methodLink RX9 139 yX7_roomOn ∈ z_ws ∧ Cond.instanceMethod yX7_roomOn ∈ z_ws ∧ Cond.selects RX7 yX7_roomOn yX7_roomOn ∈ z_ws := ⟨(z_in 1029 (by decide +kernel) rfl), (z_in 549 (by decide +kernel) rfl), (z_in 550 (by decide +kernel) rfl)⟩
theorem k_L_64 : Cond.methodLink RL 64 yX9_room ∈ z_ws ∧ Cond.instanceMethod yX9_room ∈ z_ws ∧ Cond.selects RX9 yX9_room yX9_room ∈ z_ws := ⟨(z_in 1025 (by decide +kernel) rfl), (z_in 1026 (by decide +kernel) rfl), (z_in 1027 (by decide +kernel) rfl)⟩
theorem k_X10_136 : Cond.methodLink RX10 136 yX10_seasonNow ∈ z_ws ∧ Cond.instanceMethod yX10_seasonNow ∈ z_ws ∧ Cond.selects RX10 yX10_seasonNow yX10_seasonNow ∈ z_ws := ⟨(z_in 1916 (by decide +kernel) rfl), (z_in 1918 (by decide +kernel) rfl), (z_in 46 (by decide +kernel) rfl)⟩
theorem k_X10_139 : Cond.methodLink RX10 139 yX10_roomOn ∈ z_ws ∧ Cond.instanceMethod yX10_roomOn ∈ z_ws ∧ Cond.selects RX10 yX10_roomOn yX10_roomOn ∈ z_ws := ⟨(z_in 1912 (by decide +kernel) rfl), (z_in 1914 (by decide +kernel) rfl), (z_in 45 (by decide +kernel) rfl)⟩
theorem k_X9_142 : Cond.methodLink RX9 142 yX7_countFloatingOn ∈ z_ws ∧ Cond.instanceMethod yX7_countFloatingOn ∈ z_ws ∧ Cond.selects RX7 yX7_countFloatingOn yX7_countFloatingOn ∈ z_ws := ⟨(z_in 1037 (by decide +kernel) rfl), (z_in 1038 (by decide +kernel) rfl), (z_in 1039 (by decide +kernel) rfl)⟩
theorem k_L_67 : Cond.methodLink RL 67 yX9_floatingOn ∈ z_ws ∧ Cond.instanceMethod yX9_floatingOn ∈ z_ws ∧ Cond.selects RX9 yX9_floatingOn yX9_floatingOn ∈ z_ws := ⟨(z_in 1033 (by decide +kernel) rfl), (z_in 1034 (by decide +kernel) rfl), (z_in 1035 (by decide +kernel) rfl)⟩
theorem k_X10_142 : Cond.methodLink RX10 142 yX10_those ∈ z_ws ∧ Cond.instanceMethod yX10_those ∈ z_ws ∧ Cond.selects RX10 yX10_those yX10_those ∈ z_ws := ⟨(z_in 1924 (by decide +kernel) rfl), (z_in 1926 (by decide +kernel) rfl), (z_in 47 (by decide +kernel) rfl)⟩
theorem k_X10_145 : Cond.methodLink RX10 145 yX10_onPage ∈ z_ws ∧ Cond.instanceMethod yX10_onPage ∈ z_ws ∧ Cond.selects RX10 yX10_onPage yX10_onPage ∈ z_ws := ⟨(z_in 1928 (by decide +kernel) rfl), (z_in 1930 (by decide +kernel) rfl), (z_in 48 (by decide +kernel) rfl)⟩
theorem k_L_70 : Cond.methodLink RL 70 yX9_addNet ∈ z_ws ∧ Cond.instanceMethod yX9_addNet ∈ z_ws ∧ Cond.selects RX9 yX9_addNet yX9_addNet ∈ z_ws := ⟨(z_in 1044 (by decide +kernel) rfl), (z_in 1045 (by decide +kernel) rfl), (z_in 1046 (by decide +kernel) rfl)⟩
theorem bp_84 : (Int8.ofInt (84)).toInt32 = (84 : Int32) := by decide +kernel
theorem k_L_74 : Cond.methodLink RL 74 yX9_removeNet ∈ z_ws ∧ Cond.instanceMethod yX9_removeNet ∈ z_ws ∧ Cond.selects RX9 yX9_removeNet yX9_removeNet ∈ z_ws := ⟨(z_in 1072 (by decide +kernel) rfl), (z_in 1073 (by decide +kernel) rfl), (z_in 1074 (by decide +kernel) rfl)⟩
theorem cl_L_77 : Cond.classLink RL 77 "java/lang/IndexOutOfBoundsException" ∈ z_ws := (z_in 1051 (by decide +kernel) rfl)
theorem kb_IndexOutOfBoundsException : Cond.castable "java/lang/IndexOutOfBoundsException" "java/lang/IndexOutOfBoundsException" ∈ kBad := by decide +kernel
theorem k_X10_148 : Cond.methodLink RX10 148 yX10_isNet ∈ z_ws ∧ Cond.instanceMethod yX10_isNet ∈ z_ws ∧ Cond.selects RX10 yX10_isNet yX10_isNet ∈ z_ws := ⟨(z_in 1940 (by decide +kernel) rfl), (z_in 1942 (by decide +kernel) rfl), (z_in 49 (by decide +kernel) rfl)⟩
theorem k_L_79 : Cond.methodLink RL 79 yX9_haul ∈ z_ws ∧ Cond.instanceMethod yX9_haul ∈ z_ws ∧ Cond.selects RX9 yX9_haul yX9_haul ∈ z_ws := ⟨(z_in 1079 (by decide +kernel) rfl), (z_in 1080 (by decide +kernel) rfl), (z_in 1081 (by decide +kernel) rfl)⟩
theorem nc_UnsupportedOperationException_IndexOutOfBoundsException : ("java/lang/UnsupportedOperationException", "java/lang/IndexOutOfBoundsException") ∈ kNc := by decide +kernel
theorem k_X10_151 : Cond.methodLink RX10 151 yX10_by ∈ z_ws ∧ Cond.instanceMethod yX10_by ∈ z_ws ∧ Cond.selects RX10 yX10_by yX10_by ∈ z_ws := ⟨(z_in 1948 (by decide +kernel) rfl), (z_in 1950 (by decide +kernel) rfl), (z_in 50 (by decide +kernel) rfl)⟩
theorem k_X10_154 : Cond.methodLink RX10 154 yX10_isCovered ∈ z_ws ∧ Cond.instanceMethod yX10_isCovered ∈ z_ws ∧ Cond.selects RX10 yX10_isCovered yX10_isCovered ∈ z_ws := ⟨(z_in 1956 (by decide +kernel) rfl), (z_in 1958 (by decide +kernel) rfl), (z_in 52 (by decide +kernel) rfl)⟩
theorem k_X10_157 : Cond.methodLink RX10 157 yX10_catches ∈ z_ws ∧ Cond.instanceMethod yX10_catches ∈ z_ws ∧ Cond.selects RX10 yX10_catches yX10_catches ∈ z_ws := ⟨(z_in 1952 (by decide +kernel) rfl), (z_in 1954 (by decide +kernel) rfl), (z_in 51 (by decide +kernel) rfl)⟩
theorem fl_X9_145 : z_Fld RX9 145 9 8 := ⟨RX7, TX7, 17, rfl, by decide, (z_in 160 (by decide +kernel) rfl), uw_X7⟩
theorem k_X9_357 : Cond.methodLink RX9 357 yX7_hasNet ∈ z_ws ∧ Cond.instanceMethod yX7_hasNet ∈ z_ws ∧ Cond.selects RX7 yX7_hasNet yX7_hasNet ∈ z_ws := ⟨(z_in 1094 (by decide +kernel) rfl), (z_in 673 (by decide +kernel) rfl), (z_in 674 (by decide +kernel) rfl)⟩
theorem k_X9_148 : Cond.methodLink RX9 148 yX9_needNet ∈ z_ws ∧ Cond.instanceMethod yX9_needNet ∈ z_ws ∧ Cond.selects RX9 yX9_needNet yX9_needNet ∈ z_ws := ⟨(z_in 1090 (by decide +kernel) rfl), (z_in 1092 (by decide +kernel) rfl), (z_in 14 (by decide +kernel) rfl)⟩
theorem k_X9_151 : Cond.methodLink RX9 151 yX7_isCovered ∈ z_ws ∧ Cond.instanceMethod yX7_isCovered ∈ z_ws ∧ Cond.selects RX7 yX7_isCovered yX7_isCovered ∈ z_ws := ⟨(z_in 1095 (by decide +kernel) rfl), (z_in 863 (by decide +kernel) rfl), (z_in 864 (by decide +kernel) rfl)⟩
theorem k_L_82 : Cond.methodLink RL 82 yX9_covers ∈ z_ws ∧ Cond.instanceMethod yX9_covers ∈ z_ws ∧ Cond.selects RX9 yX9_covers yX9_covers ∈ z_ws := ⟨(z_in 1086 (by decide +kernel) rfl), (z_in 1087 (by decide +kernel) rfl), (z_in 1088 (by decide +kernel) rfl)⟩
theorem nc_IllegalArgumentException_IndexOutOfBoundsException : ("java/lang/IllegalArgumentException", "java/lang/IndexOutOfBoundsException") ∈ kNc := by decide +kernel
theorem k_X9_154 : Cond.methodLink RX9 154 yX7_catchOf ∈ z_ws ∧ Cond.instanceMethod yX7_catchOf ∈ z_ws ∧ Cond.selects RX7 yX7_catchOf yX7_catchOf ∈ z_ws := ⟨(z_in 1103 (by decide +kernel) rfl), (z_in 855 (by decide +kernel) rfl), (z_in 856 (by decide +kernel) rfl)⟩
theorem k_X9_157 : Cond.methodLink RX9 157 yJ6_bitCount_0f7a4 ∈ z_ws ∧ Cond.static yJ6_bitCount_0f7a4 ∈ z_ws := ⟨(z_in 1104 (by decide +kernel) rfl), (z_in 456 (by decide +kernel) rfl)⟩
theorem k_L_85 : Cond.methodLink RL 85 yX9_catchSize ∈ z_ws ∧ Cond.instanceMethod yX9_catchSize ∈ z_ws ∧ Cond.selects RX9 yX9_catchSize yX9_catchSize ∈ z_ws := ⟨(z_in 1099 (by decide +kernel) rfl), (z_in 1100 (by decide +kernel) rfl), (z_in 1101 (by decide +kernel) rfl)⟩
theorem k_X7_120 : Cond.methodLink RX7 120 yX7_catchOf ∈ z_ws ∧ Cond.instanceMethod yX7_catchOf ∈ z_ws ∧ Cond.selects RX7 yX7_catchOf yX7_catchOf ∈ z_ws := ⟨(z_in 1116 (by decide +kernel) rfl), (z_in 855 (by decide +kernel) rfl), (z_in 856 (by decide +kernel) rfl)⟩
theorem k_X7_123 : Cond.methodLink RX7 123 yX7_weightOfAll ∈ z_ws ∧ Cond.instanceMethod yX7_weightOfAll ∈ z_ws ∧ Cond.selects RX7 yX7_weightOfAll yX7_weightOfAll ∈ z_ws := ⟨(z_in 1117 (by decide +kernel) rfl), (z_in 577 (by decide +kernel) rfl), (z_in 578 (by decide +kernel) rfl)⟩
theorem k_X9_162 : Cond.methodLink RX9 162 yX7_heaviestNet ∈ z_ws ∧ Cond.instanceMethod yX7_heaviestNet ∈ z_ws ∧ Cond.selects RX7 yX7_heaviestNet yX7_heaviestNet ∈ z_ws := ⟨(z_in 1112 (by decide +kernel) rfl), (z_in 1113 (by decide +kernel) rfl), (z_in 1114 (by decide +kernel) rfl)⟩
theorem th_X9_120_166_124 : z_Thr RX9 "java/util/NoSuchElementException" 120 166 124 := ⟨"no net would catch anything", 14, 13, ⟨#[0x2a, 0x2b, 0xb7, 0, 13, 0xb1]⟩, "java/lang/RuntimeException", ["java/lang/Exception"], by decide +kernel, by decide +kernel, by decide, by decide +kernel, by decide +kernel, by decide +kernel, by decide +kernel, (z_in 779 (by decide +kernel) rfl), (z_in 94 (by decide +kernel) rfl), by decide +kernel, by decide +kernel⟩
theorem k_L_88 : Cond.methodLink RL 88 yX9_bestNet ∈ z_ws ∧ Cond.instanceMethod yX9_bestNet ∈ z_ws ∧ Cond.selects RX9 yX9_bestNet yX9_bestNet ∈ z_ws := ⟨(z_in 1108 (by decide +kernel) rfl), (z_in 1109 (by decide +kernel) rfl), (z_in 1110 (by decide +kernel) rfl)⟩
theorem k_X10_160 : Cond.methodLink RX10 160 yX10_heavy ∈ z_ws ∧ Cond.instanceMethod yX10_heavy ∈ z_ws ∧ Cond.selects RX10 yX10_heavy yX10_heavy ∈ z_ws := ⟨(z_in 1976 (by decide +kernel) rfl), (z_in 1978 (by decide +kernel) rfl), (z_in 53 (by decide +kernel) rfl)⟩
theorem k_L_92 : Cond.methodLink RL 92 yX9_land ∈ z_ws ∧ Cond.instanceMethod yX9_land ∈ z_ws ∧ Cond.selects RX9 yX9_land yX9_land ∈ z_ws := ⟨(z_in 1122 (by decide +kernel) rfl), (z_in 1123 (by decide +kernel) rfl), (z_in 1124 (by decide +kernel) rfl)⟩
theorem k_X10_163 : Cond.methodLink RX10 163 yX10_choose ∈ z_ws ∧ Cond.instanceMethod yX10_choose ∈ z_ws ∧ Cond.selects RX10 yX10_choose yX10_choose ∈ z_ws := ⟨(z_in 1988 (by decide +kernel) rfl), (z_in 1990 (by decide +kernel) rfl), (z_in 55 (by decide +kernel) rfl)⟩
theorem k_X10_166 : Cond.methodLink RX10 166 yX10_landing ∈ z_ws ∧ Cond.instanceMethod yX10_landing ∈ z_ws ∧ Cond.selects RX10 yX10_landing yX10_landing ∈ z_ws := ⟨(z_in 1984 (by decide +kernel) rfl), (z_in 1986 (by decide +kernel) rfl), (z_in 54 (by decide +kernel) rfl)⟩
theorem k_L_95 : Cond.methodLink RL 95 yX9_free ∈ z_ws ∧ Cond.instanceMethod yX9_free ∈ z_ws ∧ Cond.selects RX9 yX9_free yX9_free ∈ z_ws := ⟨(z_in 1129 (by decide +kernel) rfl), (z_in 1130 (by decide +kernel) rfl), (z_in 1131 (by decide +kernel) rfl)⟩
theorem k_X9_168 : Cond.methodLink RX9 168 yX7_count ∈ z_ws ∧ Cond.instanceMethod yX7_count ∈ z_ws ∧ Cond.selects RX7 yX7_count yX7_count ∈ z_ws := ⟨(z_in 524 (by decide +kernel) rfl), (z_in 525 (by decide +kernel) rfl), (z_in 526 (by decide +kernel) rfl)⟩
theorem k_X9_172 : Cond.methodLink RX9 172 yX6_choose ∈ z_ws ∧ Cond.instanceMethod yX6_choose ∈ z_ws ∧ Cond.selects RX6 yX6_choose yX6_choose ∈ z_ws := ⟨(z_in 538 (by decide +kernel) rfl), (z_in 539 (by decide +kernel) rfl), (z_in 540 (by decide +kernel) rfl)⟩
theorem k_X9_175 : Cond.methodLink RX9 175 yX7_weightOfAll ∈ z_ws ∧ Cond.instanceMethod yX7_weightOfAll ∈ z_ws ∧ Cond.selects RX7 yX7_weightOfAll yX7_weightOfAll ∈ z_ws := ⟨(z_in 576 (by decide +kernel) rfl), (z_in 577 (by decide +kernel) rfl), (z_in 578 (by decide +kernel) rfl)⟩
theorem fl_X6_15 : z_Fld RX6 15 8 1 := ⟨RX6, TX6, 2, rfl, by decide, (z_in 248 (by decide +kernel) rfl), uw_X6⟩
theorem k_X6_74 : Cond.methodLink RX6 74 yX6_fits ∈ z_ws ∧ Cond.instanceMethod yX6_fits ∈ z_ws ∧ Cond.selects RX6 yX6_fits yX6_fits ∈ z_ws := ⟨(z_in 588 (by decide +kernel) rfl), (z_in 590 (by decide +kernel) rfl), (z_in 8 (by decide +kernel) rfl)⟩
theorem k_X6_78 : Cond.methodLink RX6 78 yX7_weightOfAll ∈ z_ws ∧ Cond.instanceMethod yX7_weightOfAll ∈ z_ws ∧ Cond.selects RX7 yX7_weightOfAll yX7_weightOfAll ∈ z_ws := ⟨(z_in 592 (by decide +kernel) rfl), (z_in 577 (by decide +kernel) rfl), (z_in 578 (by decide +kernel) rfl)⟩
theorem k_X9_178 : Cond.methodLink RX9 178 yX6_heaviestSet ∈ z_ws ∧ Cond.instanceMethod yX6_heaviestSet ∈ z_ws ∧ Cond.selects RX6 yX6_heaviestSet yX6_heaviestSet ∈ z_ws := ⟨(z_in 584 (by decide +kernel) rfl), (z_in 585 (by decide +kernel) rfl), (z_in 586 (by decide +kernel) rfl)⟩
theorem k_L_98 : Cond.methodLink RL 98 yX9_wouldLand ∈ z_ws ∧ Cond.instanceMethod yX9_wouldLand ∈ z_ws ∧ Cond.selects RX9 yX9_wouldLand yX9_wouldLand ∈ z_ws := ⟨(z_in 1136 (by decide +kernel) rfl), (z_in 1137 (by decide +kernel) rfl), (z_in 1138 (by decide +kernel) rfl)⟩
theorem k_L_102 : Cond.methodLink RL 102 yX9_buyLicence ∈ z_ws ∧ Cond.instanceMethod yX9_buyLicence ∈ z_ws ∧ Cond.selects RX9 yX9_buyLicence yX9_buyLicence ∈ z_ws := ⟨(z_in 1143 (by decide +kernel) rfl), (z_in 1144 (by decide +kernel) rfl), (z_in 1145 (by decide +kernel) rfl)⟩
theorem k_X10_169 : Cond.methodLink RX10 169 yX10_fee ∈ z_ws ∧ Cond.static yX10_fee ∈ z_ws := ⟨(z_in 2016 (by decide +kernel) rfl), (z_in 2017 (by decide +kernel) rfl)⟩
theorem k_L_105 : Cond.methodLink RL 105 yX9_pass ∈ z_ws ∧ Cond.instanceMethod yX9_pass ∈ z_ws ∧ Cond.selects RX9 yX9_pass yX9_pass ∈ z_ws := ⟨(z_in 1150 (by decide +kernel) rfl), (z_in 1151 (by decide +kernel) rfl), (z_in 1152 (by decide +kernel) rfl)⟩
theorem k_X10_172 : Cond.methodLink RX10 172 yX10_goes ∈ z_ws ∧ Cond.instanceMethod yX10_goes ∈ z_ws ∧ Cond.selects RX10 yX10_goes yX10_goes ∈ z_ws := ⟨(z_in 2023 (by decide +kernel) rfl), (z_in 2025 (by decide +kernel) rfl), (z_in 56 (by decide +kernel) rfl)⟩
theorem fl_X9_181 : z_Fld RX9 181 9 12 := ⟨RX7, TX7, 17, rfl, by decide, (z_in 171 (by decide +kernel) rfl), uw_X7⟩
theorem fl_X9_185 : z_Fld RX9 185 9 13 := ⟨RX7, TX7, 17, rfl, by decide, (z_in 174 (by decide +kernel) rfl), uw_X7⟩
theorem k_X9_188 : Cond.methodLink RX9 188 yX7_presentSeason ∈ z_ws ∧ Cond.instanceMethod yX7_presentSeason ∈ z_ws ∧ Cond.selects RX7 yX7_presentSeason yX7_presentSeason ∈ z_ws := ⟨(z_in 605 (by decide +kernel) rfl), (z_in 553 (by decide +kernel) rfl), (z_in 554 (by decide +kernel) rfl)⟩
theorem fl_X9_191 : z_Fld RX9 191 9 14 := ⟨RX7, TX7, 17, rfl, by decide, (z_in 178 (by decide +kernel) rfl), uw_X7⟩
theorem fl_X9_194 : z_Fld RX9 194 9 15 := ⟨RX7, TX7, 17, rfl, by decide, (z_in 181 (by decide +kernel) rfl), uw_X7⟩
theorem fl_X9_197 : z_Fld RX9 197 9 16 := ⟨RX7, TX7, 17, rfl, by decide, (z_in 184 (by decide +kernel) rfl), uw_X7⟩
theorem k_X9_205 : Cond.methodLink RX9 205 yX7_setOf ∈ z_ws ∧ Cond.instanceMethod yX7_setOf ∈ z_ws ∧ Cond.selects RX7 yX7_setOf yX7_setOf ∈ z_ws := ⟨(z_in 1178 (by decide +kernel) rfl), (z_in 529 (by decide +kernel) rfl), (z_in 530 (by decide +kernel) rfl)⟩
theorem th_X9_200_202_204 : z_Thr RX9 "java/lang/ArithmeticException" 200 202 204 := ⟨"no note is floating", 16, 7, ⟨#[0x2a, 0x2b, 0xb7, 0, 7, 0xb1]⟩, "java/lang/RuntimeException", ["java/lang/Exception"], by decide +kernel, by decide +kernel, by decide, by decide +kernel, by decide +kernel, by decide +kernel, by decide +kernel, (z_in 1175 (by decide +kernel) rfl), (z_in 100 (by decide +kernel) rfl), by decide +kernel, by decide +kernel⟩
theorem k_L_108 : Cond.methodLink RL 108 yX9_meanWeight ∈ z_ws ∧ Cond.instanceMethod yX9_meanWeight ∈ z_ws ∧ Cond.selects RX9 yX9_meanWeight yX9_meanWeight ∈ z_ws := ⟨(z_in 1171 (by decide +kernel) rfl), (z_in 1172 (by decide +kernel) rfl), (z_in 1173 (by decide +kernel) rfl)⟩
theorem cl_L_112 : Cond.classLink RL 112 "java/lang/ArithmeticException" ∈ z_ws := (z_in 1157 (by decide +kernel) rfl)
theorem kb_ArithmeticException : Cond.castable "java/lang/ArithmeticException" "java/lang/ArithmeticException" ∈ kBad := by decide +kernel
theorem th_X9_200_208_204 : z_Thr RX9 "java/lang/ArithmeticException" 200 208 204 := ⟨"there are no notes", 18, 7, ⟨#[0x2a, 0x2b, 0xb7, 0, 7, 0xb1]⟩, "java/lang/RuntimeException", ["java/lang/Exception"], by decide +kernel, by decide +kernel, by decide, by decide +kernel, by decide +kernel, by decide +kernel, by decide +kernel, (z_in 1175 (by decide +kernel) rfl), (z_in 100 (by decide +kernel) rfl), by decide +kernel, by decide +kernel⟩
theorem k_L_114 : Cond.methodLink RL 114 yX9_landedShare ∈ z_ws ∧ Cond.instanceMethod yX9_landedShare ∈ z_ws ∧ Cond.selects RX9 yX9_landedShare yX9_landedShare ∈ z_ws := ⟨(z_in 1182 (by decide +kernel) rfl), (z_in 1183 (by decide +kernel) rfl), (z_in 1184 (by decide +kernel) rfl)⟩
theorem fl_X8_35 : z_Fld RX8 35 10 1 := ⟨RX8, TX8, 11, rfl, by decide, (z_in 302 (by decide +kernel) rfl), uw_X8⟩
theorem k_X8_38 : Cond.methodLink RX8 38 yX8_isFull ∈ z_ws ∧ Cond.instanceMethod yX8_isFull ∈ z_ws ∧ Cond.selects RX8 yX8_isFull yX8_isFull ∈ z_ws := ⟨(z_in 1219 (by decide +kernel) rfl), (z_in 1196 (by decide +kernel) rfl), (z_in 1197 (by decide +kernel) rfl)⟩
theorem fl_X8_9 : z_Fld RX8 9 10 0 := ⟨RX8, TX8, 11, rfl, by decide, (z_in 301 (by decide +kernel) rfl), uw_X8⟩
theorem fp_X8_35 : z_FldP RX8 35 10 1 .int false := ⟨RX8, TX8, 11, tyX8, rfl, by decide, (z_in 302 (by decide +kernel) rfl), uw_X8, tyX8_ok, nmX8, rfl, tyX8_ok 1 (by decide), fun q => by cases q⟩
theorem fl_X9_43 : z_Fld RX9 43 11 5 := ⟨RX9, TX9, 9, rfl, by decide, (z_in 399 (by decide +kernel) rfl), uw_X9⟩
theorem k_X9_210 : Cond.methodLink RX9 210 yX8_isFull ∈ z_ws ∧ Cond.instanceMethod yX8_isFull ∈ z_ws ∧ Cond.selects RX8 yX8_isFull yX8_isFull ∈ z_ws := ⟨(z_in 1195 (by decide +kernel) rfl), (z_in 1196 (by decide +kernel) rfl), (z_in 1197 (by decide +kernel) rfl)⟩
theorem k_X9_219 : Cond.methodLink RX9 219 yX8_append ∈ z_ws ∧ Cond.instanceMethod yX8_append ∈ z_ws ∧ Cond.selects RX8 yX8_append yX8_append ∈ z_ws := ⟨(z_in 1215 (by decide +kernel) rfl), (z_in 1216 (by decide +kernel) rfl), (z_in 1217 (by decide +kernel) rfl)⟩
theorem fl_X9_223 : z_Fld RX9 223 10 1 := ⟨RX8, TX8, 11, rfl, by decide, (z_in 303 (by decide +kernel) rfl), uw_X8⟩
theorem th_X9_214_216_218 : z_Thr RX9 "java/lang/IllegalStateException" 214 216 218 := ⟨"the text buffer is full", 20, 7, ⟨#[0x2a, 0x2b, 0xb7, 0, 7, 0xb1]⟩, "java/lang/RuntimeException", ["java/lang/Exception"], by decide +kernel, by decide +kernel, by decide, by decide +kernel, by decide +kernel, by decide +kernel, by decide +kernel, (z_in 1199 (by decide +kernel) rfl), (z_in 101 (by decide +kernel) rfl), by decide +kernel, by decide +kernel⟩
theorem k_L_118 : Cond.methodLink RL 118 yX9_feed ∈ z_ws ∧ Cond.instanceMethod yX9_feed ∈ z_ws ∧ Cond.selects RX9 yX9_feed yX9_feed ∈ z_ws := ⟨(z_in 1191 (by decide +kernel) rfl), (z_in 1192 (by decide +kernel) rfl), (z_in 1193 (by decide +kernel) rfl)⟩
theorem cl_L_122 : Cond.classLink RL 122 "java/lang/IllegalStateException" ∈ z_ws := (z_in 1190 (by decide +kernel) rfl)
theorem kb_IllegalStateException : Cond.castable "java/lang/IllegalStateException" "java/lang/IllegalStateException" ∈ kBad := by decide +kernel
theorem fl_X10_175 : z_Fld RX10 175 12 13 := ⟨RX10, TX10, 20, rfl, by decide, (z_in 1692 (by decide +kernel) rfl), uw_X10⟩
theorem fl_X10_22 : z_Fld RX10 22 12 12 := ⟨RX10, TX10, 20, rfl, by decide, (z_in 1691 (by decide +kernel) rfl), uw_X10⟩
theorem fp_X10_175 : z_FldP RX10 175 12 13 .int false := ⟨RX10, TX10, 20, tyX10, rfl, by decide, (z_in 1692 (by decide +kernel) rfl), uw_X10, tyX10_ok, nmX10, rfl, tyX10_ok 13 (by decide), fun q => by cases q⟩
theorem ks_X8_92 : (RX8, 92, "wait N", 44) ∈ kStr := by decide +kernel
theorem ks_X8_70 : (RX8, 70, "note N N", 22) ∈ kStr := by decide +kernel
theorem ks_X8_72 : (RX8, 72, "cite D>D", 24) ∈ kStr := by decide +kernel
theorem ks_X8_74 : (RX8, 74, "drop D>D", 26) ∈ kStr := by decide +kernel
theorem ks_X8_76 : (RX8, 76, "current N=S", 28) ∈ kStr := by decide +kernel
theorem ks_X8_78 : (RX8, 78, "net N+N N", 30) ∈ kStr := by decide +kernel
theorem ks_X8_80 : (RX8, 80, "cut D", 32) ∈ kStr := by decide +kernel
theorem ks_X8_82 : (RX8, 82, "haul D", 34) ∈ kStr := by decide +kernel
theorem ks_X8_84 : (RX8, 84, "quota N=N", 36) ∈ kStr := by decide +kernel
theorem ks_X8_86 : (RX8, 86, "land", 38) ∈ kStr := by decide +kernel
theorem ks_X8_88 : (RX8, 88, "free D", 40) ∈ kStr := by decide +kernel
theorem ks_X8_90 : (RX8, 90, "licence", 42) ∈ kStr := by decide +kernel
theorem gs_J0_38 : Cond.fieldLink RJ0 38 "java/lang/String" "COMPACT_STRINGS" "Z" ∈ z_ws := (z_in 1263 (by decide +kernel) rfl)
theorem uw_J0 : ∀ w ∈ u_ws RJ0 TJ0 4, w ∈ z_ws := by decide +kernel
theorem fl_J0_15 : z_Fld RJ0 15 0 1 := ⟨RJ0, TJ0, 4, rfl, by decide, (z_in 1549 (by decide +kernel) rfl), uw_J0⟩
theorem fl_J0_9 : z_Fld RJ0 9 0 0 := ⟨RJ0, TJ0, 4, rfl, by decide, (z_in 1548 (by decide +kernel) rfl), uw_J0⟩
theorem k_J0_335 : Cond.methodLink RJ0 335 yJ0_coder_7d493 ∈ z_ws ∧ Cond.instanceMethod yJ0_coder_7d493 ∈ z_ws ∧ Cond.selects RJ0 yJ0_coder_7d493 yJ0_coder_7d493 ∈ z_ws := ⟨(z_in 1259 (by decide +kernel) rfl), (z_in 1260 (by decide +kernel) rfl), (z_in 1261 (by decide +kernel) rfl)⟩
theorem k_J1_9 : Cond.methodLink RJ1 9 yJ0_checkIndex_df160 ∈ z_ws ∧ Cond.static yJ0_checkIndex_df160 ∈ z_ws := ⟨(z_in 1275 (by decide +kernel) rfl), (z_in 1276 (by decide +kernel) rfl)⟩
theorem sp_255 : (Int16.ofInt (255)).toInt32 = (255 : Int32) := by decide +kernel
theorem k_J0_492 : Cond.methodLink RJ0 492 yJ0_isLatin1_aae02 ∈ z_ws ∧ Cond.instanceMethod yJ0_isLatin1_aae02 ∈ z_ws ∧ Cond.selects RJ0 yJ0_isLatin1_aae02 yJ0_isLatin1_aae02 ∈ z_ws := ⟨(z_in 1268 (by decide +kernel) rfl), (z_in 1269 (by decide +kernel) rfl), (z_in 1270 (by decide +kernel) rfl)⟩
theorem k_J0_495 : Cond.methodLink RJ0 495 yJ1_charAt_3b067 ∈ z_ws ∧ Cond.static yJ1_charAt_3b067 ∈ z_ws := ⟨(z_in 1272 (by decide +kernel) rfl), (z_in 1273 (by decide +kernel) rfl)⟩
theorem fl_X8_49 : z_Fld RX8 49 10 8 := ⟨RX8, TX8, 11, rfl, by decide, (z_in 316 (by decide +kernel) rfl), uw_X8⟩
theorem bp_48 : (Int8.ofInt (48)).toInt32 = (48 : Int32) := by decide +kernel
theorem bp_57 : (Int8.ofInt (57)).toInt32 = (57 : Int32) := by decide +kernel
theorem fp_X8_49 : z_FldP RX8 49 10 8 .int false := ⟨RX8, TX8, 11, tyX8, rfl, by decide, (z_in 316 (by decide +kernel) rfl), uw_X8, tyX8_ok, nmX8, rfl, tyX8_ok 8 (by decide), fun q => by cases q⟩
theorem fl_X8_94 : z_Fld RX8 94 10 10 := ⟨RX8, TX8, 11, rfl, by decide, (z_in 318 (by decide +kernel) rfl), uw_X8⟩
theorem fl_X8_32 : z_Fld RX8 32 10 9 := ⟨RX8, TX8, 11, rfl, by decide, (z_in 317 (by decide +kernel) rfl), uw_X8⟩
theorem fp_X8_94 : z_FldP RX8 94 10 10 .int false := ⟨RX8, TX8, 11, tyX8, rfl, by decide, (z_in 318 (by decide +kernel) rfl), uw_X8, tyX8_ok, nmX8, rfl, tyX8_ok 10 (by decide), fun q => by cases q⟩
theorem k_X8_125 : Cond.methodLink RX8 125 yX8_isDigitNext ∈ z_ws ∧ Cond.instanceMethod yX8_isDigitNext ∈ z_ws ∧ Cond.selects RX8 yX8_isDigitNext yX8_isDigitNext ∈ z_ws := ⟨(z_in 1310 (by decide +kernel) rfl), (z_in 1312 (by decide +kernel) rfl), (z_in 19 (by decide +kernel) rfl)⟩
theorem k_X8_128 : Cond.methodLink RX8 128 yX8_takeDigit ∈ z_ws ∧ Cond.instanceMethod yX8_takeDigit ∈ z_ws ∧ Cond.selects RX8 yX8_takeDigit yX8_takeDigit ∈ z_ws := ⟨(z_in 1314 (by decide +kernel) rfl), (z_in 1316 (by decide +kernel) rfl), (z_in 20 (by decide +kernel) rfl)⟩
theorem k_X8_131 : Cond.methodLink RX8 131 yX8_addValue ∈ z_ws ∧ Cond.instanceMethod yX8_addValue ∈ z_ws ∧ Cond.selects RX8 yX8_addValue yX8_addValue ∈ z_ws := ⟨(z_in 1318 (by decide +kernel) rfl), (z_in 1320 (by decide +kernel) rfl), (z_in 21 (by decide +kernel) rfl)⟩
theorem bp_78 : (Int8.ofInt (78)).toInt32 = (78 : Int32) := by decide +kernel
theorem bp_68 : (Int8.ofInt (68)).toInt32 = (68 : Int32) := by decide +kernel
theorem bp_83 : (Int8.ofInt (83)).toInt32 = (83 : Int32) := by decide +kernel
theorem k_X8_122 : Cond.methodLink RX8 122 yX8_takes ∈ z_ws ∧ Cond.instanceMethod yX8_takes ∈ z_ws ∧ Cond.selects RX8 yX8_takes yX8_takes ∈ z_ws := ⟨(z_in 1326 (by decide +kernel) rfl), (z_in 1328 (by decide +kernel) rfl), (z_in 23 (by decide +kernel) rfl)⟩
theorem bp_45 : (Int8.ofInt (45)).toInt32 = (45 : Int32) := by decide +kernel
theorem k_X8_119 : Cond.methodLink RX8 119 yX8_matchesDigit ∈ z_ws ∧ Cond.instanceMethod yX8_matchesDigit ∈ z_ws ∧ Cond.selects RX8 yX8_matchesDigit yX8_matchesDigit ∈ z_ws := ⟨(z_in 1322 (by decide +kernel) rfl), (z_in 1324 (by decide +kernel) rfl), (z_in 22 (by decide +kernel) rfl)⟩
theorem k_X8_116 : Cond.methodLink RX8 116 yX8_matchesNumber ∈ z_ws ∧ Cond.instanceMethod yX8_matchesNumber ∈ z_ws ∧ Cond.selects RX8 yX8_matchesNumber yX8_matchesNumber ∈ z_ws := ⟨(z_in 1306 (by decide +kernel) rfl), (z_in 1308 (by decide +kernel) rfl), (z_in 18 (by decide +kernel) rfl)⟩
theorem k_X8_97 : Cond.methodLink RX8 97 yJ7_fill_53178 ∈ z_ws ∧ Cond.static yJ7_fill_53178 ∈ z_ws := ⟨(z_in 1254 (by decide +kernel) rfl), (z_in 121 (by decide +kernel) rfl)⟩
theorem k_X8_103 : Cond.methodLink RX8 103 yJ0_length_8abf5 ∈ z_ws ∧ Cond.instanceMethod yJ0_length_8abf5 ∈ z_ws ∧ Cond.selects RJ0 yJ0_length_8abf5 yJ0_length_8abf5 ∈ z_ws := ⟨(z_in 1255 (by decide +kernel) rfl), (z_in 1256 (by decide +kernel) rfl), (z_in 1257 (by decide +kernel) rfl)⟩
theorem k_X8_108 : Cond.methodLink RX8 108 yJ0_charAt_5068e ∈ z_ws ∧ Cond.instanceMethod yJ0_charAt_5068e ∈ z_ws ∧ Cond.selects RJ0 yJ0_charAt_5068e yJ0_charAt_5068e ∈ z_ws := ⟨(z_in 1264 (by decide +kernel) rfl), (z_in 1265 (by decide +kernel) rfl), (z_in 1266 (by decide +kernel) rfl)⟩
theorem k_X8_112 : Cond.methodLink RX8 112 yX8_matchesPart ∈ z_ws ∧ Cond.instanceMethod yX8_matchesPart ∈ z_ws ∧ Cond.selects RX8 yX8_matchesPart yX8_matchesPart ∈ z_ws := ⟨(z_in 1302 (by decide +kernel) rfl), (z_in 1304 (by decide +kernel) rfl), (z_in 17 (by decide +kernel) rfl)⟩
theorem fl_X8_42 : z_Fld RX8 42 10 3 := ⟨RX8, TX8, 11, rfl, by decide, (z_in 306 (by decide +kernel) rfl), uw_X8⟩
theorem fl_X8_19 : z_Fld RX8 19 10 4 := ⟨RX8, TX8, 11, rfl, by decide, (z_in 308 (by decide +kernel) rfl), uw_X8⟩
theorem fl_X8_23 : z_Fld RX8 23 10 5 := ⟨RX8, TX8, 11, rfl, by decide, (z_in 310 (by decide +kernel) rfl), uw_X8⟩
theorem fl_X8_26 : z_Fld RX8 26 10 6 := ⟨RX8, TX8, 11, rfl, by decide, (z_in 312 (by decide +kernel) rfl), uw_X8⟩
theorem fl_X8_29 : z_Fld RX8 29 10 7 := ⟨RX8, TX8, 11, rfl, by decide, (z_in 314 (by decide +kernel) rfl), uw_X8⟩
theorem fp_X8_42 : z_FldP RX8 42 10 3 .int false := ⟨RX8, TX8, 11, tyX8, rfl, by decide, (z_in 306 (by decide +kernel) rfl), uw_X8, tyX8_ok, nmX8, rfl, tyX8_ok 3 (by decide), fun q => by cases q⟩
theorem k_X8_52 : Cond.methodLink RX8 52 yX8_templateOf ∈ z_ws ∧ Cond.static yX8_templateOf ∈ z_ws := ⟨(z_in 1235 (by decide +kernel) rfl), (z_in 1236 (by decide +kernel) rfl)⟩
theorem k_X8_56 : Cond.methodLink RX8 56 yX8_matches ∈ z_ws ∧ Cond.instanceMethod yX8_matches ∈ z_ws ∧ Cond.selects RX8 yX8_matches yX8_matches ∈ z_ws := ⟨(z_in 1250 (by decide +kernel) rfl), (z_in 1252 (by decide +kernel) rfl), (z_in 16 (by decide +kernel) rfl)⟩
theorem k_X8_64 : Cond.methodLink RX8 64 yJ9_max_7cf53 ∈ z_ws ∧ Cond.static yJ9_max_7cf53 ∈ z_ws := ⟨(z_in 1334 (by decide +kernel) rfl), (z_in 560 (by decide +kernel) rfl)⟩
theorem k_X8_60 : Cond.methodLink RX8 60 yX8_addCommand ∈ z_ws ∧ Cond.instanceMethod yX8_addCommand ∈ z_ws ∧ Cond.selects RX8 yX8_addCommand yX8_addCommand ∈ z_ws := ⟨(z_in 1330 (by decide +kernel) rfl), (z_in 1332 (by decide +kernel) rfl), (z_in 24 (by decide +kernel) rfl)⟩
theorem k_X8_45 : Cond.methodLink RX8 45 yX8_parseCommand ∈ z_ws ∧ Cond.instanceMethod yX8_parseCommand ∈ z_ws ∧ Cond.selects RX8 yX8_parseCommand yX8_parseCommand ∈ z_ws := ⟨(z_in 1231 (by decide +kernel) rfl), (z_in 1233 (by decide +kernel) rfl), (z_in 15 (by decide +kernel) rfl)⟩
theorem bp_59 : (Int8.ofInt (59)).toInt32 = (59 : Int32) := by decide +kernel
theorem fl_X9_340 : z_Fld RX9 340 10 4 := ⟨RX8, TX8, 11, rfl, by decide, (z_in 309 (by decide +kernel) rfl), uw_X8⟩
theorem fl_X9_343 : z_Fld RX9 343 10 5 := ⟨RX8, TX8, 11, rfl, by decide, (z_in 311 (by decide +kernel) rfl), uw_X8⟩
theorem fl_X9_346 : z_Fld RX9 346 10 6 := ⟨RX8, TX8, 11, rfl, by decide, (z_in 313 (by decide +kernel) rfl), uw_X8⟩
theorem fl_X9_349 : z_Fld RX9 349 10 7 := ⟨RX8, TX8, 11, rfl, by decide, (z_in 315 (by decide +kernel) rfl), uw_X8⟩
theorem k_X9_226 : Cond.methodLink RX9 226 yX8_parse ∈ z_ws ∧ Cond.instanceMethod yX8_parse ∈ z_ws ∧ Cond.selects RX8 yX8_parse yX8_parse ∈ z_ws := ⟨(z_in 1227 (by decide +kernel) rfl), (z_in 1228 (by decide +kernel) rfl), (z_in 1229 (by decide +kernel) rfl)⟩
theorem k_X9_229 : Cond.methodLink RX9 229 yX8_empty ∈ z_ws ∧ Cond.instanceMethod yX8_empty ∈ z_ws ∧ Cond.selects RX8 yX8_empty yX8_empty ∈ z_ws := ⟨(z_in 1335 (by decide +kernel) rfl), (z_in 1336 (by decide +kernel) rfl), (z_in 1337 (by decide +kernel) rfl)⟩
theorem fl_X9_16 : z_Fld RX9 16 11 1 := ⟨RX9, TX9, 9, rfl, by decide, (z_in 395 (by decide +kernel) rfl), uw_X9⟩
theorem k_X9_237 : Cond.methodLink RX9 237 yX7_copyFrom ∈ z_ws ∧ Cond.instanceMethod yX7_copyFrom ∈ z_ws ∧ Cond.selects RX7 yX7_copyFrom yX7_copyFrom ∈ z_ws := ⟨(z_in 630 (by decide +kernel) rfl), (z_in 631 (by decide +kernel) rfl), (z_in 632 (by decide +kernel) rfl)⟩
theorem fl_X9_241 : z_Fld RX9 241 10 3 := ⟨RX8, TX8, 11, rfl, by decide, (z_in 307 (by decide +kernel) rfl), uw_X8⟩
theorem k_X9_244 : Cond.methodLink RX9 244 yX9_runCommand ∈ z_ws ∧ Cond.instanceMethod yX9_runCommand ∈ z_ws ∧ Cond.selects RX9 yX9_runCommand yX9_runCommand ∈ z_ws := ⟨(z_in 1340 (by decide +kernel) rfl), (z_in 1342 (by decide +kernel) rfl), (z_in 25 (by decide +kernel) rfl)⟩
theorem th_X9_251_253_255 : z_Thr RX9 "java/lang/UnsupportedOperationException" 251 253 255 := ⟨"a command failed", 48, 7, ⟨#[0x2a, 0x2b, 0xb7, 0, 7, 0xb1]⟩, "java/lang/RuntimeException", ["java/lang/Exception"], by decide +kernel, by decide +kernel, by decide, by decide +kernel, by decide +kernel, by decide +kernel, by decide +kernel, (z_in 811 (by decide +kernel) rfl), (z_in 96 (by decide +kernel) rfl), by decide +kernel, by decide +kernel⟩
theorem th_X9_232_234_236 : z_Thr RX9 "java/lang/IllegalArgumentException" 232 234 236 := ⟨"the text does not match the grammar", 46, 7, ⟨#[0x2a, 0x2b, 0xb7, 0, 7, 0xb1]⟩, "java/lang/RuntimeException", ["java/lang/Exception"], by decide +kernel, by decide +kernel, by decide, by decide +kernel, by decide +kernel, by decide +kernel, by decide +kernel, (z_in 707 (by decide +kernel) rfl), (z_in 93 (by decide +kernel) rfl), by decide +kernel, by decide +kernel⟩
theorem k_L_124 : Cond.methodLink RL 124 yX9_execute ∈ z_ws ∧ Cond.instanceMethod yX9_execute ∈ z_ws ∧ Cond.selects RX9 yX9_execute yX9_execute ∈ z_ws := ⟨(z_in 1223 (by decide +kernel) rfl), (z_in 1224 (by decide +kernel) rfl), (z_in 1225 (by decide +kernel) rfl)⟩
theorem fl_X10_178 : z_Fld RX10 178 12 17 := ⟨RX10, TX10, 20, rfl, by decide, (z_in 1696 (by decide +kernel) rfl), uw_X10⟩
theorem k_X10_181 : Cond.methodLink RX10 181 yX10_here ∈ z_ws ∧ Cond.instanceMethod yX10_here ∈ z_ws ∧ Cond.selects RX10 yX10_here yX10_here ∈ z_ws := ⟨(z_in 2083 (by decide +kernel) rfl), (z_in 2085 (by decide +kernel) rfl), (z_in 60 (by decide +kernel) rfl)⟩
theorem fp_X10_178 : z_FldP RX10 178 12 17 .int false := ⟨RX10, TX10, 20, tyX10, rfl, by decide, (z_in 1696 (by decide +kernel) rfl), uw_X10, tyX10_ok, nmX10, rfl, tyX10_ok 17 (by decide), fun q => by cases q⟩
theorem fl_X10_33 : z_Fld RX10 33 12 18 := ⟨RX10, TX10, 20, rfl, by decide, (z_in 1697 (by decide +kernel) rfl), uw_X10⟩
theorem fl_X10_184 : z_Fld RX10 184 12 19 := ⟨RX10, TX10, 20, rfl, by decide, (z_in 1698 (by decide +kernel) rfl), uw_X10⟩
theorem k_X10_187 : Cond.methodLink RX10 187 yJ0_length_8abf5 ∈ z_ws ∧ Cond.instanceMethod yJ0_length_8abf5 ∈ z_ws ∧ Cond.selects RJ0 yJ0_length_8abf5 yJ0_length_8abf5 ∈ z_ws := ⟨(z_in 2096 (by decide +kernel) rfl), (z_in 1256 (by decide +kernel) rfl), (z_in 1257 (by decide +kernel) rfl)⟩
theorem k_X10_191 : Cond.methodLink RX10 191 yJ0_charAt_5068e ∈ z_ws ∧ Cond.instanceMethod yJ0_charAt_5068e ∈ z_ws ∧ Cond.selects RJ0 yJ0_charAt_5068e yJ0_charAt_5068e ∈ z_ws := ⟨(z_in 2097 (by decide +kernel) rfl), (z_in 1265 (by decide +kernel) rfl), (z_in 1266 (by decide +kernel) rfl)⟩
theorem k_X10_194 : Cond.methodLink RX10 194 yX10_skips ∈ z_ws ∧ Cond.instanceMethod yX10_skips ∈ z_ws ∧ Cond.selects RX10 yX10_skips yX10_skips ∈ z_ws := ⟨(z_in 2079 (by decide +kernel) rfl), (z_in 2081 (by decide +kernel) rfl), (z_in 59 (by decide +kernel) rfl)⟩
theorem k_X10_197 : Cond.methodLink RX10 197 yX10_digits ∈ z_ws ∧ Cond.instanceMethod yX10_digits ∈ z_ws ∧ Cond.selects RX10 yX10_digits yX10_digits ∈ z_ws := ⟨(z_in 2102 (by decide +kernel) rfl), (z_in 2104 (by decide +kernel) rfl), (z_in 64 (by decide +kernel) rfl)⟩
theorem bp_61 : (Int8.ofInt (61)).toInt32 = (61 : Int32) := by decide +kernel
theorem bp_105 : (Int8.ofInt (105)).toInt32 = (105 : Int32) := by decide +kernel
theorem bp_117 : (Int8.ofInt (117)).toInt32 = (117 : Int32) := by decide +kernel
theorem bp_116 : (Int8.ofInt (116)).toInt32 = (116 : Int32) := by decide +kernel
theorem ks_X10_211 : (RX10, 211, "rrent", 66) ∈ kStr := by decide +kernel
theorem k_X10_202 : Cond.methodLink RX10 202 yX10_isWord ∈ z_ws ∧ Cond.instanceMethod yX10_isWord ∈ z_ws ∧ Cond.selects RX10 yX10_isWord yX10_isWord ∈ z_ws := ⟨(z_in 2092 (by decide +kernel) rfl), (z_in 2094 (by decide +kernel) rfl), (z_in 62 (by decide +kernel) rfl)⟩
theorem k_X10_206 : Cond.methodLink RX10 206 yX10_figures ∈ z_ws ∧ Cond.instanceMethod yX10_figures ∈ z_ws ∧ Cond.selects RX10 yX10_figures yX10_figures ∈ z_ws := ⟨(z_in 2098 (by decide +kernel) rfl), (z_in 2100 (by decide +kernel) rfl), (z_in 63 (by decide +kernel) rfl)⟩
theorem k_X10_213 : Cond.methodLink RX10 213 yX10_signed ∈ z_ws ∧ Cond.instanceMethod yX10_signed ∈ z_ws ∧ Cond.selects RX10 yX10_signed yX10_signed ∈ z_ws := ⟨(z_in 2108 (by decide +kernel) rfl), (z_in 2110 (by decide +kernel) rfl), (z_in 65 (by decide +kernel) rfl)⟩
theorem ks_X10_209 : (RX10, 209, "", 64) ∈ kStr := by decide +kernel
theorem ks_X10_200 : (RX10, 200, "te", 62) ∈ kStr := by decide +kernel
theorem bp_62 : (Int8.ofInt (62)).toInt32 = (62 : Int32) := by decide +kernel
theorem bp_113 : (Int8.ofInt (113)).toInt32 = (113 : Int32) := by decide +kernel
theorem bp_119 : (Int8.ofInt (119)).toInt32 = (119 : Int32) := by decide +kernel
theorem bp_110 : (Int8.ofInt (110)).toInt32 = (110 : Int32) := by decide +kernel
theorem bp_111 : (Int8.ofInt (111)).toInt32 = (111 : Int32) := by decide +kernel
theorem ks_X10_233 : (RX10, 233, "et", 82) ∈ kStr := by decide +kernel
theorem bp_43 : (Int8.ofInt (43)).toInt32 = (43 : Int32) := by decide +kernel
theorem bp_97 : (Int8.ofInt (97)).toInt32 = (97 : Int32) := by decide +kernel
theorem ks_X10_231 : (RX10, 231, "icence", 80) ∈ kStr := by decide +kernel
theorem ks_X10_229 : (RX10, 229, "nd", 78) ∈ kStr := by decide +kernel
theorem ks_X10_227 : (RX10, 227, "ait", 76) ∈ kStr := by decide +kernel
theorem ks_X10_225 : (RX10, 225, "ree", 74) ∈ kStr := by decide +kernel
theorem ks_X10_223 : (RX10, 223, "uota", 72) ∈ kStr := by decide +kernel
theorem ks_X10_221 : (RX10, 221, "aul", 70) ∈ kStr := by decide +kernel
theorem ks_X10_219 : (RX10, 219, "rop", 68) ∈ kStr := by decide +kernel
theorem k_X10_216 : Cond.methodLink RX10 216 yX10_withC ∈ z_ws ∧ Cond.instanceMethod yX10_withC ∈ z_ws ∧ Cond.selects RX10 yX10_withC yX10_withC ∈ z_ws := ⟨(z_in 2087 (by decide +kernel) rfl), (z_in 2089 (by decide +kernel) rfl), (z_in 61 (by decide +kernel) rfl)⟩
theorem fp_X10_184 : z_FldP RX10 184 12 19 .int false := ⟨RX10, TX10, 20, tyX10, rfl, by decide, (z_in 1698 (by decide +kernel) rfl), uw_X10, tyX10_ok, nmX10, rfl, tyX10_ok 19 (by decide), fun q => by cases q⟩
theorem k_X10_235 : Cond.methodLink RX10 235 yX10_commandHere ∈ z_ws ∧ Cond.instanceMethod yX10_commandHere ∈ z_ws ∧ Cond.selects RX10 yX10_commandHere yX10_commandHere ∈ z_ws := ⟨(z_in 2075 (by decide +kernel) rfl), (z_in 2077 (by decide +kernel) rfl), (z_in 58 (by decide +kernel) rfl)⟩
theorem k_X10_272 : Cond.methodLink RX10 272 yX10_pass ∈ z_ws ∧ Cond.instanceMethod yX10_pass ∈ z_ws ∧ Cond.selects RX10 yX10_pass yX10_pass ∈ z_ws := ⟨(z_in 2135 (by decide +kernel) rfl), (z_in 2020 (by decide +kernel) rfl), (z_in 2021 (by decide +kernel) rfl)⟩
theorem k_X10_239 : Cond.methodLink RX10 239 yX10_addNote ∈ z_ws ∧ Cond.instanceMethod yX10_addNote ∈ z_ws ∧ Cond.selects RX10 yX10_addNote yX10_addNote ∈ z_ws := ⟨(z_in 2124 (by decide +kernel) rfl), (z_in 1745 (by decide +kernel) rfl), (z_in 1746 (by decide +kernel) rfl)⟩
theorem k_X10_242 : Cond.methodLink RX10 242 yX10_cite ∈ z_ws ∧ Cond.instanceMethod yX10_cite ∈ z_ws ∧ Cond.selects RX10 yX10_cite yX10_cite ∈ z_ws := ⟨(z_in 2125 (by decide +kernel) rfl), (z_in 1774 (by decide +kernel) rfl), (z_in 1775 (by decide +kernel) rfl)⟩
theorem k_X10_245 : Cond.methodLink RX10 245 yX10_uncite ∈ z_ws ∧ Cond.instanceMethod yX10_uncite ∈ z_ws ∧ Cond.selects RX10 yX10_uncite yX10_uncite ∈ z_ws := ⟨(z_in 2126 (by decide +kernel) rfl), (z_in 1801 (by decide +kernel) rfl), (z_in 1802 (by decide +kernel) rfl)⟩
theorem k_X10_248 : Cond.methodLink RX10 248 yX10_setCurrent ∈ z_ws ∧ Cond.instanceMethod yX10_setCurrent ∈ z_ws ∧ Cond.selects RX10 yX10_setCurrent yX10_setCurrent ∈ z_ws := ⟨(z_in 2127 (by decide +kernel) rfl), (z_in 1889 (by decide +kernel) rfl), (z_in 1890 (by decide +kernel) rfl)⟩
theorem k_X10_251 : Cond.methodLink RX10 251 yX10_addNet ∈ z_ws ∧ Cond.instanceMethod yX10_addNet ∈ z_ws ∧ Cond.selects RX10 yX10_addNet yX10_addNet ∈ z_ws := ⟨(z_in 2128 (by decide +kernel) rfl), (z_in 1933 (by decide +kernel) rfl), (z_in 1934 (by decide +kernel) rfl)⟩
theorem k_X10_254 : Cond.methodLink RX10 254 yX10_removeNet ∈ z_ws ∧ Cond.instanceMethod yX10_removeNet ∈ z_ws ∧ Cond.selects RX10 yX10_removeNet yX10_removeNet ∈ z_ws := ⟨(z_in 2129 (by decide +kernel) rfl), (z_in 1937 (by decide +kernel) rfl), (z_in 1938 (by decide +kernel) rfl)⟩
theorem k_X10_257 : Cond.methodLink RX10 257 yX10_haul ∈ z_ws ∧ Cond.instanceMethod yX10_haul ∈ z_ws ∧ Cond.selects RX10 yX10_haul yX10_haul ∈ z_ws := ⟨(z_in 2130 (by decide +kernel) rfl), (z_in 1945 (by decide +kernel) rfl), (z_in 1946 (by decide +kernel) rfl)⟩
theorem k_X10_260 : Cond.methodLink RX10 260 yX10_setQuota ∈ z_ws ∧ Cond.instanceMethod yX10_setQuota ∈ z_ws ∧ Cond.selects RX10 yX10_setQuota yX10_setQuota ∈ z_ws := ⟨(z_in 2131 (by decide +kernel) rfl), (z_in 1893 (by decide +kernel) rfl), (z_in 1894 (by decide +kernel) rfl)⟩
theorem k_X10_263 : Cond.methodLink RX10 263 yX10_land ∈ z_ws ∧ Cond.instanceMethod yX10_land ∈ z_ws ∧ Cond.selects RX10 yX10_land yX10_land ∈ z_ws := ⟨(z_in 2132 (by decide +kernel) rfl), (z_in 1981 (by decide +kernel) rfl), (z_in 1982 (by decide +kernel) rfl)⟩
theorem k_X10_266 : Cond.methodLink RX10 266 yX10_free ∈ z_ws ∧ Cond.instanceMethod yX10_free ∈ z_ws ∧ Cond.selects RX10 yX10_free yX10_free ∈ z_ws := ⟨(z_in 2133 (by decide +kernel) rfl), (z_in 1993 (by decide +kernel) rfl), (z_in 1994 (by decide +kernel) rfl)⟩
theorem k_X10_269 : Cond.methodLink RX10 269 yX10_buyLicence ∈ z_ws ∧ Cond.instanceMethod yX10_buyLicence ∈ z_ws ∧ Cond.selects RX10 yX10_buyLicence yX10_buyLicence ∈ z_ws := ⟨(z_in 2134 (by decide +kernel) rfl), (z_in 2013 (by decide +kernel) rfl), (z_in 2014 (by decide +kernel) rfl)⟩
theorem fl_X10_39 : z_Fld RX10 39 12 7 := ⟨RX10, TX10, 20, rfl, by decide, (z_in 1686 (by decide +kernel) rfl), uw_X10⟩
theorem fl_X10_43 : z_Fld RX10 43 12 9 := ⟨RX10, TX10, 20, rfl, by decide, (z_in 1688 (by decide +kernel) rfl), uw_X10⟩
theorem k_X10_275 : Cond.methodLink RX10 275 yX10_isText ∈ z_ws ∧ Cond.instanceMethod yX10_isText ∈ z_ws ∧ Cond.selects RX10 yX10_isText yX10_isText ∈ z_ws := ⟨(z_in 2071 (by decide +kernel) rfl), (z_in 2073 (by decide +kernel) rfl), (z_in 57 (by decide +kernel) rfl)⟩
theorem fl_X10_19 : z_Fld RX10 19 12 3 := ⟨RX10, TX10, 20, rfl, by decide, (z_in 1682 (by decide +kernel) rfl), uw_X10⟩
theorem fp_X10_52 : z_FldP RX10 52 12 6 .boolean false := ⟨RX10, TX10, 20, tyX10, rfl, by decide, (z_in 1685 (by decide +kernel) rfl), uw_X10, tyX10_ok, nmX10, rfl, tyX10_ok 6 (by decide), fun q => by cases q⟩
theorem k_X10_278 : Cond.methodLink RX10 278 yX10_carries ∈ z_ws ∧ Cond.instanceMethod yX10_carries ∈ z_ws ∧ Cond.selects RX10 yX10_carries yX10_carries ∈ z_ws := ⟨(z_in 2120 (by decide +kernel) rfl), (z_in 2122 (by decide +kernel) rfl), (z_in 66 (by decide +kernel) rfl)⟩
theorem k_X10_281 : Cond.methodLink RX10 281 yX10_deniesText ∈ z_ws ∧ Cond.instanceMethod yX10_deniesText ∈ z_ws ∧ Cond.selects RX10 yX10_deniesText yX10_deniesText ∈ z_ws := ⟨(z_in 2136 (by decide +kernel) rfl), (z_in 2138 (by decide +kernel) rfl), (z_in 67 (by decide +kernel) rfl)⟩
theorem fl_X9_259 : z_Fld RX9 259 10 2 := ⟨RX8, TX8, 11, rfl, by decide, (z_in 305 (by decide +kernel) rfl), uw_X8⟩
theorem th_X9_120_262_124 : z_Thr RX9 "java/util/NoSuchElementException" 120 262 124 := ⟨"no fault position was kept yet", 50, 13, ⟨#[0x2a, 0x2b, 0xb7, 0, 13, 0xb1]⟩, "java/lang/RuntimeException", ["java/lang/Exception"], by decide +kernel, by decide +kernel, by decide, by decide +kernel, by decide +kernel, by decide +kernel, by decide +kernel, (z_in 779 (by decide +kernel) rfl), (z_in 94 (by decide +kernel) rfl), by decide +kernel, by decide +kernel⟩
theorem k_L_127 : Cond.methodLink RL 127 yX9_faultPosition ∈ z_ws ∧ Cond.instanceMethod yX9_faultPosition ∈ z_ws ∧ Cond.selects RX9 yX9_faultPosition yX9_faultPosition ∈ z_ws := ⟨(z_in 1348 (by decide +kernel) rfl), (z_in 1349 (by decide +kernel) rfl), (z_in 1350 (by decide +kernel) rfl)⟩
theorem fl_X10_25 : z_Fld RX10 25 12 14 := ⟨RX10, TX10, 20, rfl, by decide, (z_in 1693 (by decide +kernel) rfl), uw_X10⟩
theorem k_J8_194 : Cond.methodLink RJ8 194 yJ9_max_7cf53 ∈ z_ws ∧ Cond.static yJ9_max_7cf53 ∈ z_ws := ⟨(z_in 1397 (by decide +kernel) rfl), (z_in 560 (by decide +kernel) rfl)⟩
theorem cn_J8_200 : Cond.constant RJ8 200 (2147483639 : Int32) ∈ z_ws := (z_in 1398 (by decide +kernel) rfl)
theorem fl_J5_15 : z_Fld RJ5 15 1 0 := ⟨RJ4, TJ4, 4, rfl, by decide, (z_in 379 (by decide +kernel) rfl), uw_J4⟩
theorem fl_J5_22 : z_Fld RJ5 22 1 1 := ⟨RJ4, TJ4, 4, rfl, by decide, (z_in 380 (by decide +kernel) rfl), uw_J4⟩
theorem k_J5_114 : Cond.methodLink RJ5 114 yJ8_newLength_cabcc ∈ z_ws ∧ Cond.static yJ8_newLength_cabcc ∈ z_ws := ⟨(z_in 1394 (by decide +kernel) rfl), (z_in 1395 (by decide +kernel) rfl)⟩
theorem cn_J5_39 : Cond.constant RJ5 39 (2147483647 : Int32) ∈ z_ws := (z_in 1402 (by decide +kernel) rfl)
theorem k_J7_304 : Cond.methodLink RJ7 304 yJ9_min_7cf53 ∈ z_ws ∧ Cond.static yJ9_min_7cf53 ∈ z_ws := ⟨(z_in 1413 (by decide +kernel) rfl), (z_in 449 (by decide +kernel) rfl)⟩
theorem ar_J7_150 : Cond.methodLink RJ7 150 arraycopyName ∈ z_ws ∧ Cond.native arraycopyName ∈ z_ws ∧ Cond.static arraycopyName ∈ z_ws ∧ Cond.initialized "java/lang/System" ∈ z_ws := ⟨(z_in 1414 (by decide +kernel) rfl), (z_in 475 (by decide +kernel) rfl), (z_in 474 (by decide +kernel) rfl), (z_in 97 (by decide +kernel) rfl)⟩
theorem k_J5_104 : Cond.methodLink RJ5 104 yJ5_newCapacity_0f7a4 ∈ z_ws ∧ Cond.instanceMethod yJ5_newCapacity_0f7a4 ∈ z_ws ∧ Cond.selects RJ4 yJ5_newCapacity_0f7a4 yJ5_newCapacity_0f7a4 ∈ z_ws := ⟨(z_in 1390 (by decide +kernel) rfl), (z_in 1392 (by decide +kernel) rfl), z_inx 1 (by decide +kernel) rfl⟩
theorem k_J5_108 : Cond.methodLink RJ5 108 yJ7_copyOf_9075b ∈ z_ws ∧ Cond.static yJ7_copyOf_9075b ∈ z_ws := ⟨(z_in 1403 (by decide +kernel) rfl), (z_in 1404 (by decide +kernel) rfl)⟩
theorem k_J5_100 : Cond.methodLink RJ5 100 yJ5_ensureCapacityInternal_d00df ∈ z_ws ∧ Cond.instanceMethod yJ5_ensureCapacityInternal_d00df ∈ z_ws ∧ Cond.selects RJ4 yJ5_ensureCapacityInternal_d00df yJ5_ensureCapacityInternal_d00df ∈ z_ws := ⟨(z_in 1386 (by decide +kernel) rfl), (z_in 1388 (by decide +kernel) rfl), z_inx 0 (by decide +kernel) rfl⟩
theorem fl_J5_79 : z_Fld RJ5 79 1 3 := ⟨RJ4, TJ4, 4, rfl, by decide, (z_in 383 (by decide +kernel) rfl), uw_J4⟩
theorem fp_J5_79 : z_FldP RJ5 79 1 3 .int false := ⟨RJ4, TJ4, 4, tyJ4, rfl, by decide, (z_in 383 (by decide +kernel) rfl), uw_J4, tyJ4_ok, nmJ4, rfl, tyJ4_ok 3 (by decide), fun q => by cases q⟩
theorem fp_J5_73 : z_FldP RJ5 73 1 2 .boolean false := ⟨RJ4, TJ4, 4, tyJ4, rfl, by decide, (z_in 381 (by decide +kernel) rfl), uw_J4, tyJ4_ok, nmJ4, rfl, tyJ4_ok 2 (by decide), fun q => by cases q⟩
theorem k_J5_83 : Cond.methodLink RJ5 83 yJ5_isLatin1_aae02 ∈ z_ws ∧ Cond.instanceMethod yJ5_isLatin1_aae02 ∈ z_ws ∧ Cond.selects RJ4 yJ5_isLatin1_aae02 yJ5_isLatin1_aae02 ∈ z_ws := ⟨(z_in 1415 (by decide +kernel) rfl), (z_in 1416 (by decide +kernel) rfl), (z_in 1418 (by decide +kernel) rfl)⟩
theorem k_J4_333 : Cond.methodLink RJ4 333 yJ5_setLength_d00df ∈ z_ws ∧ Cond.sameMethod yJ5_setLength_d00df.cls yJ5_setLength_d00df.cls yJ5_setLength_d00df.name yJ5_setLength_d00df.desc ∈ z_ws ∧ Cond.superclass RJ4 yJ5_setLength_d00df.cls ∈ z_ws ∧ Cond.instanceMethod yJ5_setLength_d00df ∈ z_ws ∧ yJ5_setLength_d00df.name ≠ "<init>" := ⟨(z_in 1364 (by decide +kernel) rfl), (z_in 2195 (by decide +kernel) rfl), (z_in 392 (by decide +kernel) rfl), (z_in 1365 (by decide +kernel) rfl), by decide⟩
theorem bp_m10 : (Int8.ofInt (-10)).toInt32 = (-10 : Int32) := by decide +kernel
theorem bp_m100 : (Int8.ofInt (-100)).toInt32 = (-100 : Int32) := by decide +kernel
theorem gs_J6_83 : Cond.fieldLink RJ6 83 "java/lang/Integer" "DigitOnes" "[B" ∈ z_ws := (z_in 1483 (by decide +kernel) rfl)
theorem gs_J6_87 : Cond.fieldLink RJ6 87 "java/lang/Integer" "DigitTens" "[B" ∈ z_ws := (z_in 1485 (by decide +kernel) rfl)
theorem bp_m9 : (Int8.ofInt (-9)).toInt32 = (-9 : Int32) := by decide +kernel
theorem k_J5_245 : Cond.methodLink RJ5 245 yJ6_stringSize_0f7a4 ∈ z_ws ∧ Cond.static yJ6_stringSize_0f7a4 ∈ z_ws := ⟨(z_in 1477 (by decide +kernel) rfl), (z_in 1478 (by decide +kernel) rfl)⟩
theorem k_J5_248 : Cond.methodLink RJ5 248 yJ6_getChars_ba4f3 ∈ z_ws ∧ Cond.static yJ6_getChars_ba4f3 ∈ z_ws := ⟨(z_in 1480 (by decide +kernel) rfl), (z_in 1481 (by decide +kernel) rfl)⟩
theorem k_J4_53 : Cond.methodLink RJ4 53 yJ5_append_c97b9 ∈ z_ws ∧ Cond.sameMethod yJ5_append_c97b9.cls yJ5_append_c97b9.cls yJ5_append_c97b9.name yJ5_append_c97b9.desc ∈ z_ws ∧ Cond.superclass RJ4 yJ5_append_c97b9.cls ∈ z_ws ∧ Cond.instanceMethod yJ5_append_c97b9 ∈ z_ws ∧ yJ5_append_c97b9.name ≠ "<init>" := ⟨(z_in 1474 (by decide +kernel) rfl), (z_in 2203 (by decide +kernel) rfl), (z_in 392 (by decide +kernel) rfl), (z_in 1475 (by decide +kernel) rfl), by decide⟩
theorem k_J5_191 : Cond.methodLink RJ5 191 yJ1_canEncode_fc78d ∈ z_ws ∧ Cond.static yJ1_canEncode_fc78d ∈ z_ws := ⟨(z_in 1597 (by decide +kernel) rfl), (z_in 1598 (by decide +kernel) rfl)⟩
theorem k_J4_50 : Cond.methodLink RJ4 50 yJ5_append_3fe6f ∈ z_ws ∧ Cond.sameMethod yJ5_append_3fe6f.cls yJ5_append_3fe6f.cls yJ5_append_3fe6f.name yJ5_append_3fe6f.desc ∈ z_ws ∧ Cond.superclass RJ4 yJ5_append_3fe6f.cls ∈ z_ws ∧ Cond.instanceMethod yJ5_append_3fe6f ∈ z_ws ∧ yJ5_append_3fe6f.name ≠ "<init>" := ⟨(z_in 1594 (by decide +kernel) rfl), (z_in 2204 (by decide +kernel) rfl), (z_in 392 (by decide +kernel) rfl), (z_in 1595 (by decide +kernel) rfl), by decide⟩
theorem k_J4_343 : Cond.methodLink RJ4 343 yJ5_length_8abf5 ∈ z_ws ∧ Cond.sameMethod yJ5_length_8abf5.cls yJ5_length_8abf5.cls yJ5_length_8abf5.name yJ5_length_8abf5.desc ∈ z_ws ∧ Cond.superclass RJ4 yJ5_length_8abf5.cls ∈ z_ws ∧ Cond.instanceMethod yJ5_length_8abf5 ∈ z_ws ∧ yJ5_length_8abf5.name ≠ "<init>" := ⟨(z_in 1518 (by decide +kernel) rfl), (z_in 1514 (by decide +kernel) rfl), (z_in 392 (by decide +kernel) rfl), (z_in 1513 (by decide +kernel) rfl), by decide⟩
theorem fl_X9_57 : z_Fld RX9 57 11 7 := ⟨RX9, TX9, 9, rfl, by decide, (z_in 401 (by decide +kernel) rfl), uw_X9⟩
theorem k_X9_264 : Cond.methodLink RX9 264 yJ4_setLength_d00df ∈ z_ws ∧ Cond.instanceMethod yJ4_setLength_d00df ∈ z_ws ∧ Cond.selects RJ4 yJ4_setLength_d00df yJ4_setLength_d00df ∈ z_ws := ⟨(z_in 1360 (by decide +kernel) rfl), (z_in 1361 (by decide +kernel) rfl), (z_in 1362 (by decide +kernel) rfl)⟩
theorem k_X9_267 : Cond.methodLink RX9 267 yJ4_append_bf812 ∈ z_ws ∧ Cond.instanceMethod yJ4_append_bf812 ∈ z_ws ∧ Cond.selects RJ4 yJ4_append_bf812 yJ4_append_bf812 ∈ z_ws := ⟨(z_in 1589 (by decide +kernel) rfl), (z_in 1471 (by decide +kernel) rfl), (z_in 1472 (by decide +kernel) rfl)⟩
theorem bp_112 : (Int8.ofInt (112)).toInt32 = (112 : Int32) := by decide +kernel
theorem k_X9_270 : Cond.methodLink RX9 270 yJ4_append_cf468 ∈ z_ws ∧ Cond.instanceMethod yJ4_append_cf468 ∈ z_ws ∧ Cond.selects RJ4 yJ4_append_cf468 yJ4_append_cf468 ∈ z_ws := ⟨(z_in 1590 (by decide +kernel) rfl), (z_in 1591 (by decide +kernel) rfl), (z_in 1592 (by decide +kernel) rfl)⟩
theorem k_X9_273 : Cond.methodLink RX9 273 yJ4_length_8abf5 ∈ z_ws ∧ Cond.instanceMethod yJ4_length_8abf5 ∈ z_ws ∧ Cond.selects RJ4 yJ4_length_8abf5 yJ4_length_8abf5 ∈ z_ws := ⟨(z_in 1603 (by decide +kernel) rfl), (z_in 1516 (by decide +kernel) rfl), (z_in 2205 (by decide +kernel) rfl)⟩
theorem k_L_130 : Cond.methodLink RL 130 yX9_writeNote ∈ z_ws ∧ Cond.instanceMethod yX9_writeNote ∈ z_ws ∧ Cond.selects RX9 yX9_writeNote yX9_writeNote ∈ z_ws := ⟨(z_in 1356 (by decide +kernel) rfl), (z_in 1357 (by decide +kernel) rfl), (z_in 1358 (by decide +kernel) rfl)⟩
theorem fl_X10_29 : z_Fld RX10 29 12 15 := ⟨RX10, TX10, 20, rfl, by decide, (z_in 1694 (by decide +kernel) rfl), uw_X10⟩
theorem fl_X10_284 : z_Fld RX10 284 12 16 := ⟨RX10, TX10, 20, rfl, by decide, (z_in 1695 (by decide +kernel) rfl), uw_X10⟩
theorem fp_X10_284 : z_FldP RX10 284 12 16 .int false := ⟨RX10, TX10, 20, tyX10, rfl, by decide, (z_in 1695 (by decide +kernel) rfl), uw_X10, tyX10_ok, nmX10, rfl, tyX10_ok 16 (by decide), fun q => by cases q⟩
theorem k_X10_291 : Cond.methodLink RX10 291 yX10_writes ∈ z_ws ∧ Cond.instanceMethod yX10_writes ∈ z_ws ∧ Cond.selects RX10 yX10_writes yX10_writes ∈ z_ws := ⟨(z_in 2152 (by decide +kernel) rfl), (z_in 2154 (by decide +kernel) rfl), (z_in 69 (by decide +kernel) rfl)⟩
theorem k_X10_287 : Cond.methodLink RX10 287 yX10_writesNumber ∈ z_ws ∧ Cond.instanceMethod yX10_writesNumber ∈ z_ws ∧ Cond.selects RX10 yX10_writesNumber yX10_writesNumber ∈ z_ws := ⟨(z_in 2148 (by decide +kernel) rfl), (z_in 2150 (by decide +kernel) rfl), (z_in 68 (by decide +kernel) rfl)⟩
theorem k_X10_294 : Cond.methodLink RX10 294 yX10_writesBehind ∈ z_ws ∧ Cond.instanceMethod yX10_writesBehind ∈ z_ws ∧ Cond.selects RX10 yX10_writesBehind yX10_writesBehind ∈ z_ws := ⟨(z_in 2156 (by decide +kernel) rfl), (z_in 2158 (by decide +kernel) rfl), (z_in 70 (by decide +kernel) rfl)⟩
theorem k_J5_138 : Cond.methodLink RJ5 138 yJ9_min_7cf53 ∈ z_ws ∧ Cond.static yJ9_min_7cf53 ∈ z_ws := ⟨(z_in 1619 (by decide +kernel) rfl), (z_in 449 (by decide +kernel) rfl)⟩
theorem k_J5_144 : Cond.methodLink RJ5 144 yJ0_checkIndex_df160 ∈ z_ws ∧ Cond.static yJ0_checkIndex_df160 ∈ z_ws := ⟨(z_in 1620 (by decide +kernel) rfl), (z_in 1276 (by decide +kernel) rfl)⟩
theorem k_J4_329 : Cond.methodLink RJ4 329 yJ5_charAt_5068e ∈ z_ws ∧ Cond.sameMethod yJ5_charAt_5068e.cls yJ5_charAt_5068e.cls yJ5_charAt_5068e.name yJ5_charAt_5068e.desc ∈ z_ws ∧ Cond.superclass RJ4 yJ5_charAt_5068e.cls ∈ z_ws ∧ Cond.instanceMethod yJ5_charAt_5068e ∈ z_ws ∧ yJ5_charAt_5068e.name ≠ "<init>" := ⟨(z_in 1616 (by decide +kernel) rfl), (z_in 2206 (by decide +kernel) rfl), (z_in 392 (by decide +kernel) rfl), (z_in 1617 (by decide +kernel) rfl), by decide⟩
theorem th_X9_275_277_279 : z_Thr RX9 "java/lang/IndexOutOfBoundsException" 275 277 279 := ⟨"no such index in the line", 52, 7, ⟨#[0x2a, 0x2b, 0xb7, 0, 7, 0xb1]⟩, "java/lang/RuntimeException", ["java/lang/Exception"], by decide +kernel, by decide +kernel, by decide, by decide +kernel, by decide +kernel, by decide +kernel, by decide +kernel, (z_in 795 (by decide +kernel) rfl), (z_in 95 (by decide +kernel) rfl), by decide +kernel, by decide +kernel⟩
theorem k_X9_280 : Cond.methodLink RX9 280 yJ4_charAt_5068e ∈ z_ws ∧ Cond.instanceMethod yJ4_charAt_5068e ∈ z_ws ∧ Cond.selects RJ4 yJ4_charAt_5068e yJ4_charAt_5068e ∈ z_ws := ⟨(z_in 1612 (by decide +kernel) rfl), (z_in 1613 (by decide +kernel) rfl), (z_in 1614 (by decide +kernel) rfl)⟩
theorem k_L_133 : Cond.methodLink RL 133 yX9_lineCharacter ∈ z_ws ∧ Cond.instanceMethod yX9_lineCharacter ∈ z_ws ∧ Cond.selects RX9 yX9_lineCharacter yX9_lineCharacter ∈ z_ws := ⟨(z_in 1607 (by decide +kernel) rfl), (z_in 1608 (by decide +kernel) rfl), (z_in 1609 (by decide +kernel) rfl)⟩
theorem fl_X9_287 : z_Fld RX9 287 5 0 := ⟨RX2, TX2, 3, rfl, by decide, (z_in 349 (by decide +kernel) rfl), uw_X2⟩
theorem th_X9_120_360_124 : z_Thr RX9 "java/util/NoSuchElementException" 120 360 124 := ⟨"nothing was denied yet", 54, 13, ⟨#[0x2a, 0x2b, 0xb7, 0, 13, 0xb1]⟩, "java/lang/RuntimeException", ["java/lang/Exception"], by decide +kernel, by decide +kernel, by decide, by decide +kernel, by decide +kernel, by decide +kernel, by decide +kernel, (z_in 779 (by decide +kernel) rfl), (z_in 94 (by decide +kernel) rfl), by decide +kernel, by decide +kernel⟩
theorem k_X9_284 : Cond.methodLink RX9 284 yX9_needDenial ∈ z_ws ∧ Cond.instanceMethod yX9_needDenial ∈ z_ws ∧ Cond.selects RX9 yX9_needDenial yX9_needDenial ∈ z_ws := ⟨(z_in 1629 (by decide +kernel) rfl), (z_in 1631 (by decide +kernel) rfl), (z_in 26 (by decide +kernel) rfl)⟩
theorem k_L_136 : Cond.methodLink RL 136 yX9_denial ∈ z_ws ∧ Cond.instanceMethod yX9_denial ∈ z_ws ∧ Cond.selects RX9 yX9_denial yX9_denial ∈ z_ws := ⟨(z_in 1625 (by decide +kernel) rfl), (z_in 1626 (by decide +kernel) rfl), (z_in 1627 (by decide +kernel) rfl)⟩
theorem fl_X9_290 : z_Fld RX9 290 5 1 := ⟨RX2, TX2, 3, rfl, by decide, (z_in 351 (by decide +kernel) rfl), uw_X2⟩
theorem k_L_139 : Cond.methodLink RL 139 yX9_denialDetail ∈ z_ws ∧ Cond.instanceMethod yX9_denialDetail ∈ z_ws ∧ Cond.selects RX9 yX9_denialDetail yX9_denialDetail ∈ z_ws := ⟨(z_in 1637 (by decide +kernel) rfl), (z_in 1638 (by decide +kernel) rfl), (z_in 1639 (by decide +kernel) rfl)⟩
theorem fl_X10_46 : z_Fld RX10 46 12 10 := ⟨RX10, TX10, 20, rfl, by decide, (z_in 1689 (by decide +kernel) rfl), uw_X10⟩
theorem fl_X9_293 : z_Fld RX9 293 5 2 := ⟨RX2, TX2, 3, rfl, by decide, (z_in 353 (by decide +kernel) rfl), uw_X2⟩
theorem th_X9_120_296_124 : z_Thr RX9 "java/util/NoSuchElementException" 120 296 124 := ⟨"the latest denial has no cause", 56, 13, ⟨#[0x2a, 0x2b, 0xb7, 0, 13, 0xb1]⟩, "java/lang/RuntimeException", ["java/lang/Exception"], by decide +kernel, by decide +kernel, by decide, by decide +kernel, by decide +kernel, by decide +kernel, by decide +kernel, (z_in 779 (by decide +kernel) rfl), (z_in 94 (by decide +kernel) rfl), by decide +kernel, by decide +kernel⟩
theorem k_L_142 : Cond.methodLink RL 142 yX9_denialCause ∈ z_ws ∧ Cond.instanceMethod yX9_denialCause ∈ z_ws ∧ Cond.selects RX9 yX9_denialCause yX9_denialCause ∈ z_ws := ⟨(z_in 1644 (by decide +kernel) rfl), (z_in 1645 (by decide +kernel) rfl), (z_in 1646 (by decide +kernel) rfl)⟩
theorem fl_X10_49 : z_Fld RX10 49 12 11 := ⟨RX10, TX10, 20, rfl, by decide, (z_in 1690 (by decide +kernel) rfl), uw_X10⟩
theorem fl_X9_298 : z_Fld RX9 298 7 2 := ⟨RX4, TX4, 3, rfl, by decide, (z_in 233 (by decide +kernel) rfl), uw_X4⟩
theorem k_X9_302 : Cond.methodLink RX9 302 yX4_takeBack ∈ z_ws ∧ Cond.instanceMethod yX4_takeBack ∈ z_ws ∧ Cond.selects RX4 yX4_takeBack yX4_takeBack ∈ z_ws := ⟨(z_in 1657 (by decide +kernel) rfl), (z_in 1658 (by decide +kernel) rfl), (z_in 1659 (by decide +kernel) rfl)⟩
theorem th_X9_214_300_218 : z_Thr RX9 "java/lang/IllegalStateException" 214 300 218 := ⟨"no change can be undone", 58, 7, ⟨#[0x2a, 0x2b, 0xb7, 0, 7, 0xb1]⟩, "java/lang/RuntimeException", ["java/lang/Exception"], by decide +kernel, by decide +kernel, by decide, by decide +kernel, by decide +kernel, by decide +kernel, by decide +kernel, (z_in 1199 (by decide +kernel) rfl), (z_in 101 (by decide +kernel) rfl), by decide +kernel, by decide +kernel⟩
theorem k_L_145 : Cond.methodLink RL 145 yX9_undo ∈ z_ws ∧ Cond.instanceMethod yX9_undo ∈ z_ws ∧ Cond.selects RX9 yX9_undo yX9_undo ∈ z_ws := ⟨(z_in 1652 (by decide +kernel) rfl), (z_in 1653 (by decide +kernel) rfl), (z_in 1654 (by decide +kernel) rfl)⟩
theorem fl_X9_305 : z_Fld RX9 305 11 8 := ⟨RX9, TX9, 9, rfl, by decide, (z_in 402 (by decide +kernel) rfl), uw_X9⟩
theorem fp_X9_305 : z_FldP RX9 305 11 8 (.object "FootnoteFishery$State") false := ⟨RX9, TX9, 9, tyX9, rfl, by decide, (z_in 402 (by decide +kernel) rfl), uw_X9, tyX9_ok, nmX9, rfl, tyX9_ok 8 (by decide), fun q => by cases q⟩
theorem fp_X10_298 : z_FldP RX10 298 12 4 .boolean false := ⟨RX10, TX10, 20, tyX10, rfl, by decide, (z_in 1683 (by decide +kernel) rfl), uw_X10, tyX10_ok, nmX10, rfl, tyX10_ok 4 (by decide), fun q => by cases q⟩
theorem fl_X10_16 : z_Fld RX10 16 12 2 := ⟨RX10, TX10, 20, rfl, by decide, (z_in 1681 (by decide +kernel) rfl), uw_X10⟩
theorem th_X9_214_308_218 : z_Thr RX9 "java/lang/IllegalStateException" 214 308 218 := ⟨"there is no snapshot", 60, 7, ⟨#[0x2a, 0x2b, 0xb7, 0, 7, 0xb1]⟩, "java/lang/RuntimeException", ["java/lang/Exception"], by decide +kernel, by decide +kernel, by decide, by decide +kernel, by decide +kernel, by decide +kernel, by decide +kernel, (z_in 1199 (by decide +kernel) rfl), (z_in 101 (by decide +kernel) rfl), by decide +kernel, by decide +kernel⟩
theorem k_X9_310 : Cond.methodLink RX9 310 yX4_forget ∈ z_ws ∧ Cond.instanceMethod yX4_forget ∈ z_ws ∧ Cond.selects RX4 yX4_forget yX4_forget ∈ z_ws := ⟨(z_in 1669 (by decide +kernel) rfl), (z_in 1670 (by decide +kernel) rfl), (z_in 1671 (by decide +kernel) rfl)⟩
theorem k_L_148 : Cond.methodLink RL 148 yX9_restoreSnapshot ∈ z_ws ∧ Cond.instanceMethod yX9_restoreSnapshot ∈ z_ws ∧ Cond.selects RX9 yX9_restoreSnapshot yX9_restoreSnapshot ∈ z_ws := ⟨(z_in 1664 (by decide +kernel) rfl), (z_in 1665 (by decide +kernel) rfl), (z_in 1666 (by decide +kernel) rfl)⟩
theorem fl_X10_298 : z_Fld RX10 298 12 4 := ⟨RX10, TX10, 20, rfl, by decide, (z_in 1683 (by decide +kernel) rfl), uw_X10⟩
