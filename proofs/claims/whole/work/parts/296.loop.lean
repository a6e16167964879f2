/-! THE LAW'S LOOP -/
section LOOP
variable {X : PX} {B k n i N : Nat} {q : Nat → PC} {h : PH} {sc : Nat → Int32}
theorem and63 (x : Int32) : ∃ v, v < 64 ∧ x &&& 63 = w v := ⟨x.toBitVec.toNat &&& 63, Nat.lt_succ_of_le Nat.and_le_right, by
  have e : w x.toBitVec.toNat = x := Int32.toBitVec_inj.1 (by
    show BitVec.ofNat 32 x.toBitVec.toNat = x.toBitVec
    rw [BitVec.ofNat_toNat, BitVec.setWidth_eq])
  have := w_and x.toBitVec.toNat 63
  rw [e] at this
  exact this⟩
/-- a row of the switch -/
theorem law_tab (E : z_E X cL_law RL "law" 9 room_1 (some .boolean)) {lv : List (Nat × Value)} {v : Nat} (off : Int) (tgt : Nat) (hv : v < 58) (ho : (#[248, 316, 384, 452, 465, 521, 577, 633, 689, 764, 839, 852, 865, 921, 934, 947, 1003, 1071, 1139, 1195, 1251, 1307, 1363, 1443, 1499, 1555, 1568, 1643, 1699, 1743, 1787, 1843, 1856, 1869, 1882, 1945, 1989, 2045, 2058, 2071, 2084, 2097, 2110, 2123, 2136, 2201, 2267, 2325, 2369, 2413, 2469, 2525, 2569, 2613, 2657, 2701, 2714, 2727] : Array Int)[v]? = some off) (ht : ((44 : Nat) : Int) + off = (tgt : Int)) (kk : WP X 9 k n tgt lv [] h) : WP X 9 k n 44 lv [.int (w v)] h := by
  have hi : (w v).toInt = (v : Int) := w_int (by omega)
  refine z_tableIn E dL_law_44 (by rw [hi]; omega) (by rw [hi]; omega) ?_ ht kk
  rw [hi, show ((v : Int) - 0).toNat = v by omega]
  exact ho
theorem law_tabO (E : z_E X cL_law RL "law" 9 room_1 (some .boolean)) {lv : List (Nat × Value)} {v : Nat} (h1 : 58 ≤ v) (h2 : v < 64) (kk : WP X 9 k n 2815 lv [] h) : WP X 9 k n 44 lv [.int (w v)] h := by
  have hi : (w v).toInt = (v : Int) := w_int (by omega)
  exact z_tableOut E dL_law_44 (Or.inr (by rw [hi]; omega)) (by decide) kk
theorem law_lt : ∀ N, N < 4 → ∀ i, i < 4 → w N - w 4 < w i := by decide +kernel
/-- one call, whatever it is: the machine comes to the end of the case, and all holds -/
theorem law_case (E : z_E X cL_law RL "law" 9 room_1 (some .boolean)) (V : Inv B q h) (hq : q 0 = .inl (.int, N, .inl sc)) (hN : N ≤ 2048) (hP : Pri (0, q)) (hT : Tps (0, q)) (hW : MWd (0, q)) (hD : DgC (0, q)) (hi : i + 4 ≤ N) (hb : B + 600 < 1000000000) (hk : id (k + 32 ≤ room_1.cells)) (hn : id (n + 1990 ≤ room_1.slots)) {v : Nat} (hv : v < 64)
    (kk : ∀ h1, Inv (B + 600) q h1 → WP X 9 (k + 32) (n + 1990) 2815 [(0, .ref 0), (1, .ref 86), (2, .ref 131), (3, .ref 139), (4, .ref 140), (5, .int (w i))] [] h1) : WP X 9 k n 44 [(0, .ref 0), (1, .ref 86), (2, .ref 131), (3, .ref 139), (4, .ref 140), (5, .int (w i))] [.int (w v)] h := by
  by_cases h58 : 58 ≤ v
  · exact law_tabO E h58 hv (z_wide (Nat.le_add_right _ _) (Nat.le_add_right _ _) (kk h (V.le (by omega) hb)))
  have hv : v < 58 := by omega
  clear h58
  obtain hv | rfl : v < 57 ∨ v = 57 := by omega
  rotate_left
  · obtain ⟨h1, e, V1⟩ := case_57 V (v5 := w i)
    exact law_tab E 2727 2771 (by decide) rfl (by decide) (b_L_case57 E (by omega) (by omega) hk hn e (kk h1 (V1.le (by omega) hb)))
  obtain hv | rfl : v < 56 ∨ v = 56 := by omega
  rotate_left
  · obtain ⟨h1, e, V1⟩ := case_56 V (v5 := w i)
    exact law_tab E 2714 2758 (by decide) rfl (by decide) (b_L_case56 E (by omega) (by omega) hk hn e (kk h1 (V1.le (by omega) hb)))
  obtain hv | rfl : v < 55 ∨ v = 55 := by omega
  rotate_left
  · obtain ⟨h1, e, V1⟩ := case_55 V (v5 := w i)
    exact law_tab E 2701 2745 (by decide) rfl (by decide) (b_L_case55 E (by omega) (by omega) hk hn e (kk h1 (V1.le (by omega) hb)))
  obtain hv | rfl : v < 54 ∨ v = 54 := by omega
  rotate_left
  · obtain ⟨h1, e, V1⟩ := case_54 V (v5 := w i)
    exact law_tab E 2657 2701 (by decide) rfl (by decide) (b_L_case54 E (by omega) (by omega) hk hn e (kk h1 (V1.le (by omega) hb)))
  obtain hv | rfl : v < 53 ∨ v = 53 := by omega
  rotate_left
  · obtain ⟨h1, e, V1⟩ := case_53 V (i := i)
    exact law_tab E 2613 2657 (by decide) rfl (by decide) (b_L_case53 E (by omega) (by omega) hk hn e (kk h1 (V1.le (by omega) hb)))
  obtain hv | rfl : v < 52 ∨ v = 52 := by omega
  rotate_left
  · obtain ⟨h1, e, V1⟩ := case_52 V (i := i)
    exact law_tab E 2569 2613 (by decide) rfl (by decide) (b_L_case52 E (by omega) (by omega) hk hn e (kk h1 (V1.le (by omega) hb)))
  obtain hv | rfl : v < 51 ∨ v = 51 := by omega
  rotate_left
  · obtain ⟨h1, e, V1⟩ := case_51 V (i := i)
    exact law_tab E 2525 2569 (by decide) rfl (by decide) (b_L_case51 E (by omega) (by omega) hk hn e (kk h1 (V1.le (by omega) hb)))
  obtain hv | rfl : v < 50 ∨ v = 50 := by omega
  rotate_left
  · obtain ⟨h1, e, V1⟩ := case_50 V hq hN hi
    exact law_tab E 2469 2513 (by decide) rfl (by decide) (b_L_case50 E (by omega) (by omega) hk hn e (kk h1 (V1.le (by omega) hb)))
  obtain hv | rfl : v < 49 ∨ v = 49 := by omega
  rotate_left
  · obtain ⟨h1, e, V1⟩ := case_49 V hq hN hD hi
    exact law_tab E 2413 2457 (by decide) rfl (by decide) (b_L_case49 E (by omega) (by omega) hk hn e (kk h1 (V1.le (by omega) hb)))
  obtain hv | rfl : v < 48 ∨ v = 48 := by omega
  rotate_left
  · obtain ⟨h1, e, V1⟩ := case_48 V (i := i)
    exact law_tab E 2369 2413 (by decide) rfl (by decide) (b_L_case48 E (by omega) (by omega) hk hn e (kk h1 (V1.le (by omega) hb)))
  obtain hv | rfl : v < 47 ∨ v = 47 := by omega
  rotate_left
  · obtain ⟨h1, e, V1⟩ := case_47 V hT hW hP hb (v5 := w i)
    exact law_tab E 2325 2369 (by decide) rfl (by decide) (b_L_case47 E (by omega) (by omega) hk hn e (kk h1 (V1.le (by omega) hb)))
  obtain hv | rfl : v < 46 ∨ v = 46 := by omega
  rotate_left
  · obtain ⟨h1, e, V1⟩ := case_46 V hq hN hi
    exact law_tab E 2267 2311 (by decide) rfl (by decide) (b_L_case46 E (by omega) (by omega) hk hn e (kk h1 (V1.le (by omega) hb)))
  obtain hv | rfl : v < 45 ∨ v = 45 := by omega
  rotate_left
  · obtain ⟨h1, e, V1⟩ := case_45 V (i := i)
    exact law_tab E 2201 2245 (by decide) rfl (by decide) (b_L_case45 E (by omega) (by omega) hk hn e (kk h1 (V1.le (by omega) hb)))
  obtain hv | rfl : v < 44 ∨ v = 44 := by omega
  rotate_left
  · obtain ⟨h1, e, V1⟩ := case_44 V (i := i)
    exact law_tab E 2136 2180 (by decide) rfl (by decide) (b_L_case44 E (by omega) (by omega) hk hn e (kk h1 (V1.le (by omega) hb)))
  obtain hv | rfl : v < 43 ∨ v = 43 := by omega
  rotate_left
  · obtain ⟨h1, e, V1⟩ := case_43 V (v5 := w i)
    exact law_tab E 2123 2167 (by decide) rfl (by decide) (b_L_case43 E (by omega) (by omega) hk hn e (kk h1 (V1.le (by omega) hb)))
  obtain hv | rfl : v < 42 ∨ v = 42 := by omega
  rotate_left
  · obtain ⟨h1, e, V1⟩ := case_42 V (v5 := w i)
    exact law_tab E 2110 2154 (by decide) rfl (by decide) (b_L_case42 E (by omega) (by omega) hk hn e (kk h1 (V1.le (by omega) hb)))
  obtain hv | rfl : v < 41 ∨ v = 41 := by omega
  rotate_left
  · obtain ⟨h1, e, V1⟩ := case_41 V (v5 := w i)
    exact law_tab E 2097 2141 (by decide) rfl (by decide) (b_L_case41 E (by omega) (by omega) hk hn e (kk h1 (V1.le (by omega) hb)))
  obtain hv | rfl : v < 40 ∨ v = 40 := by omega
  rotate_left
  · obtain ⟨h1, e, V1⟩ := case_40 V (v5 := w i)
    exact law_tab E 2084 2128 (by decide) rfl (by decide) (b_L_case40 E (by omega) (by omega) hk hn e (kk h1 (V1.le (by omega) hb)))
  obtain hv | rfl : v < 39 ∨ v = 39 := by omega
  rotate_left
  · obtain ⟨h1, e, V1⟩ := case_39 V (v5 := w i)
    exact law_tab E 2071 2115 (by decide) rfl (by decide) (b_L_case39 E (by omega) (by omega) hk hn e (kk h1 (V1.le (by omega) hb)))
  obtain hv | rfl : v < 38 ∨ v = 38 := by omega
  rotate_left
  · obtain ⟨h1, e, V1⟩ := case_38 V (v5 := w i)
    exact law_tab E 2058 2102 (by decide) rfl (by decide) (b_L_case38 E (by omega) (by omega) hk hn e (kk h1 (V1.le (by omega) hb)))
  obtain hv | rfl : v < 37 ∨ v = 37 := by omega
  rotate_left
  · obtain ⟨h1, e, V1⟩ := case_37 V (v5 := w i)
    exact law_tab E 2045 2089 (by decide) rfl (by decide) (b_L_case37 E (by omega) (by omega) hk hn e (kk h1 (V1.le (by omega) hb)))
  obtain hv | rfl : v < 36 ∨ v = 36 := by omega
  rotate_left
  · obtain ⟨h1, e, V1⟩ := case_36 V hq hN hP hi (by omega)
    exact law_tab E 1989 2033 (by decide) rfl (by decide) (b_L_case36 E (by omega) (by omega) hk hn e (kk h1 (V1.le (by omega) hb)))
  obtain hv | rfl : v < 35 ∨ v = 35 := by omega
  rotate_left
  · obtain ⟨h1, e, V1⟩ := case_35 V hq hN hP hi (by omega)
    exact law_tab E 1945 1989 (by decide) rfl (by decide) (b_L_case35 E (by omega) (by omega) hk hn e (kk h1 (V1.le (by omega) hb)))
  obtain hv | rfl : v < 34 ∨ v = 34 := by omega
  rotate_left
  · obtain ⟨h1, e, V1⟩ := case_34 V hq hN hi
    exact law_tab E 1882 1926 (by decide) rfl (by decide) (b_L_case34 E (by omega) (by omega) hk hn e (kk h1 (V1.le (by omega) hb)))
  obtain hv | rfl : v < 33 ∨ v = 33 := by omega
  rotate_left
  · obtain ⟨h1, e, V1⟩ := case_33 V (v5 := w i)
    exact law_tab E 1869 1913 (by decide) rfl (by decide) (b_L_case33 E (by omega) (by omega) hk hn e (kk h1 (V1.le (by omega) hb)))
  obtain hv | rfl : v < 32 ∨ v = 32 := by omega
  rotate_left
  · obtain ⟨h1, e, V1⟩ := case_32 V (v5 := w i)
    exact law_tab E 1856 1900 (by decide) rfl (by decide) (b_L_case32 E (by omega) (by omega) hk hn e (kk h1 (V1.le (by omega) hb)))
  obtain hv | rfl : v < 31 ∨ v = 31 := by omega
  rotate_left
  · obtain ⟨h1, e, V1⟩ := case_31 V (v5 := w i)
    exact law_tab E 1843 1887 (by decide) rfl (by decide) (b_L_case31 E (by omega) (by omega) hk hn e (kk h1 (V1.le (by omega) hb)))
  obtain hv | rfl : v < 30 ∨ v = 30 := by omega
  rotate_left
  · obtain ⟨h1, e, V1⟩ := case_30 V hq hN hP hi (by omega)
    exact law_tab E 1787 1831 (by decide) rfl (by decide) (b_L_case30 E (by omega) (by omega) hk hn e (kk h1 (V1.le (by omega) hb)))
  obtain hv | rfl : v < 29 ∨ v = 29 := by omega
  rotate_left
  · obtain ⟨h1, e, V1⟩ := case_29 V hq hN hP hi (by omega)
    exact law_tab E 1743 1787 (by decide) rfl (by decide) (b_L_case29 E (by omega) (by omega) hk hn e (kk h1 (V1.le (by omega) hb)))
  obtain hv | rfl : v < 28 ∨ v = 28 := by omega
  rotate_left
  · obtain ⟨h1, e, V1⟩ := case_28 V (i := i)
    exact law_tab E 1699 1743 (by decide) rfl (by decide) (b_L_case28 E (by omega) (by omega) hk hn e (kk h1 (V1.le (by omega) hb)))
  obtain hv | rfl : v < 27 ∨ v = 27 := by omega
  rotate_left
  · obtain ⟨h1, e, V1⟩ := case_27 V hq hN hi
    exact law_tab E 1643 1687 (by decide) rfl (by decide) (b_L_case27 E (by omega) (by omega) hk hn e (kk h1 (V1.le (by omega) hb)))
  obtain hv | rfl : v < 26 ∨ v = 26 := by omega
  rotate_left
  · obtain ⟨h1, e, V1⟩ := case_26 V hq hN hi
    exact law_tab E 1568 1612 (by decide) rfl (by decide) (b_L_case26 E (by omega) (by omega) hk hn e (kk h1 (V1.le (by omega) hb)))
  obtain hv | rfl : v < 25 ∨ v = 25 := by omega
  rotate_left
  · obtain ⟨h1, e, V1⟩ := case_25 V (v5 := w i)
    exact law_tab E 1555 1599 (by decide) rfl (by decide) (b_L_case25 E (by omega) (by omega) hk hn e (kk h1 (V1.le (by omega) hb)))
  obtain hv | rfl : v < 24 ∨ v = 24 := by omega
  rotate_left
  · obtain ⟨h1, e, V1⟩ := case_24 V hq hN hP hi (by omega)
    exact law_tab E 1499 1543 (by decide) rfl (by decide) (b_L_case24 E (by omega) (by omega) hk hn e (kk h1 (V1.le (by omega) hb)))
  obtain hv | rfl : v < 23 ∨ v = 23 := by omega
  rotate_left
  · obtain ⟨h1, e, V1⟩ := case_23 V hq hN hP hi (by omega)
    exact law_tab E 1443 1487 (by decide) rfl (by decide) (b_L_case23 E (by omega) (by omega) hk hn e (kk h1 (V1.le (by omega) hb)))
  obtain hv | rfl : v < 22 ∨ v = 22 := by omega
  rotate_left
  · obtain ⟨h1, e, V1⟩ := case_22 V hq hN hP hi (by omega)
    exact law_tab E 1363 1407 (by decide) rfl (by decide) (b_L_case22 E (by omega) (by omega) hk hn e (kk h1 (V1.le (by omega) hb)))
  obtain hv | rfl : v < 21 ∨ v = 21 := by omega
  rotate_left
  · obtain ⟨h1, e, V1⟩ := case_21 V hq hN hi
    exact law_tab E 1307 1351 (by decide) rfl (by decide) (b_L_case21 E (by omega) (by omega) hk hn e (kk h1 (V1.le (by omega) hb)))
  obtain hv | rfl : v < 20 ∨ v = 20 := by omega
  rotate_left
  · obtain ⟨h1, e, V1⟩ := case_20 V hq hN hi
    exact law_tab E 1251 1295 (by decide) rfl (by decide) (b_L_case20 E (by omega) (by omega) hk hn e (kk h1 (V1.le (by omega) hb)))
  obtain hv | rfl : v < 19 ∨ v = 19 := by omega
  rotate_left
  · obtain ⟨h1, e, V1⟩ := case_19 V hq hN hi
    exact law_tab E 1195 1239 (by decide) rfl (by decide) (b_L_case19 E (by omega) (by omega) hk hn e (kk h1 (V1.le (by omega) hb)))
  obtain hv | rfl : v < 18 ∨ v = 18 := by omega
  rotate_left
  · obtain ⟨h1, e, V1⟩ := case_18 V hq hN hi
    exact law_tab E 1139 1183 (by decide) rfl (by decide) (b_L_case18 E (by omega) (by omega) hk hn e (kk h1 (V1.le (by omega) hb)))
  obtain hv | rfl : v < 17 ∨ v = 17 := by omega
  rotate_left
  · obtain ⟨h1, e, V1⟩ := case_17 V hq hN hP hi (by omega)
    exact law_tab E 1071 1115 (by decide) rfl (by decide) (b_L_case17 E (by omega) (by omega) hk hn e (kk h1 (V1.le (by omega) hb)))
  obtain hv | rfl : v < 16 ∨ v = 16 := by omega
  rotate_left
  · obtain ⟨h1, e, V1⟩ := case_16 V hq hN hP hi (by omega)
    exact law_tab E 1003 1047 (by decide) rfl (by decide) (b_L_case16 E (by omega) (by omega) hk hn e (kk h1 (V1.le (by omega) hb)))
  obtain hv | rfl : v < 15 ∨ v = 15 := by omega
  rotate_left
  · obtain ⟨h1, e, V1⟩ := case_15 V hq hN hi
    exact law_tab E 947 991 (by decide) rfl (by decide) (b_L_case15 E (by omega) (by omega) hk hn e (kk h1 (V1.le (by omega) hb)))
  obtain hv | rfl : v < 14 ∨ v = 14 := by omega
  rotate_left
  · obtain ⟨h1, e, V1⟩ := case_14 V (v5 := w i)
    exact law_tab E 934 978 (by decide) rfl (by decide) (b_L_case14 E (by omega) (by omega) hk hn e (kk h1 (V1.le (by omega) hb)))
  obtain hv | rfl : v < 13 ∨ v = 13 := by omega
  rotate_left
  · obtain ⟨h1, e, V1⟩ := case_13 V (v5 := w i)
    exact law_tab E 921 965 (by decide) rfl (by decide) (b_L_case13 E (by omega) (by omega) hk hn e (kk h1 (V1.le (by omega) hb)))
  obtain hv | rfl : v < 12 ∨ v = 12 := by omega
  rotate_left
  · obtain ⟨h1, e, V1⟩ := case_12 V hq hN hi
    exact law_tab E 865 909 (by decide) rfl (by decide) (b_L_case12 E (by omega) (by omega) hk hn e (kk h1 (V1.le (by omega) hb)))
  obtain hv | rfl : v < 11 ∨ v = 11 := by omega
  rotate_left
  · obtain ⟨h1, e, V1⟩ := case_11 V (v5 := w i)
    exact law_tab E 852 896 (by decide) rfl (by decide) (b_L_case11 E (by omega) (by omega) hk hn e (kk h1 (V1.le (by omega) hb)))
  obtain hv | rfl : v < 10 ∨ v = 10 := by omega
  rotate_left
  · obtain ⟨h1, e, V1⟩ := case_10 V (v5 := w i)
    exact law_tab E 839 883 (by decide) rfl (by decide) (b_L_case10 E (by omega) (by omega) hk hn e (kk h1 (V1.le (by omega) hb)))
  obtain hv | rfl : v < 9 ∨ v = 9 := by omega
  rotate_left
  · obtain ⟨h1, e, V1⟩ := case_9 V hq hN hi
    exact law_tab E 764 808 (by decide) rfl (by decide) (b_L_case9 E (by omega) (by omega) hk hn e (kk h1 (V1.le (by omega) hb)))
  obtain hv | rfl : v < 8 ∨ v = 8 := by omega
  rotate_left
  · obtain ⟨h1, e, V1⟩ := case_8 V hq hN hi
    exact law_tab E 689 733 (by decide) rfl (by decide) (b_L_case8 E (by omega) (by omega) hk hn e (kk h1 (V1.le (by omega) hb)))
  obtain hv | rfl : v < 7 ∨ v = 7 := by omega
  rotate_left
  · obtain ⟨h1, e, V1⟩ := case_7 V hq hN hi
    exact law_tab E 633 677 (by decide) rfl (by decide) (b_L_case7 E (by omega) (by omega) hk hn e (kk h1 (V1.le (by omega) hb)))
  obtain hv | rfl : v < 6 ∨ v = 6 := by omega
  rotate_left
  · obtain ⟨h1, e, V1⟩ := case_6 V hq hN hi
    exact law_tab E 577 621 (by decide) rfl (by decide) (b_L_case6 E (by omega) (by omega) hk hn e (kk h1 (V1.le (by omega) hb)))
  obtain hv | rfl : v < 5 ∨ v = 5 := by omega
  rotate_left
  · obtain ⟨h1, e, V1⟩ := case_5 V hq hN hi
    exact law_tab E 521 565 (by decide) rfl (by decide) (b_L_case5 E (by omega) (by omega) hk hn e (kk h1 (V1.le (by omega) hb)))
  obtain hv | rfl : v < 4 ∨ v = 4 := by omega
  rotate_left
  · obtain ⟨h1, e, V1⟩ := case_4 V hq hN hi
    exact law_tab E 465 509 (by decide) rfl (by decide) (b_L_case4 E (by omega) (by omega) hk hn e (kk h1 (V1.le (by omega) hb)))
  obtain hv | rfl : v < 3 ∨ v = 3 := by omega
  rotate_left
  · obtain ⟨h1, e, V1⟩ := case_3 V (v5 := w i)
    exact law_tab E 452 496 (by decide) rfl (by decide) (b_L_case3 E (by omega) (by omega) hk hn e (kk h1 (V1.le (by omega) hb)))
  obtain hv | rfl : v < 2 ∨ v = 2 := by omega
  rotate_left
  · obtain ⟨h1, e, V1⟩ := case_2 V hq hN hP hi (by omega)
    exact law_tab E 384 428 (by decide) rfl (by decide) (b_L_case2 E (by omega) (by omega) hk hn e (kk h1 (V1.le (by omega) hb)))
  obtain hv | rfl : v < 1 ∨ v = 1 := by omega
  rotate_left
  · obtain ⟨h1, e, V1⟩ := case_1 V hq hN hP hi (by omega)
    exact law_tab E 316 360 (by decide) rfl (by decide) (b_L_case1 E (by omega) (by omega) hk hn e (kk h1 (V1.le (by omega) hb)))
  obtain rfl : v = 0 := by omega
  · obtain ⟨h1, e, V1⟩ := case_0 V hq hN hP hi (by omega)
    exact law_tab E 248 292 (by decide) rfl (by decide) (b_L_case0 E (by omega) (by omega) hk hn e (kk h1 (V1.le (by omega) hb)))
set_option maxRecDepth 16384 in
/-- the loop -/
theorem law_loop (E : z_E X cL_law RL "law" 9 room_1 (some .boolean)) (hq : q 0 = .inl (.int, N, .inl sc)) (hN : N ≤ 2048) (hP : Pri (0, q)) (hT : Tps (0, q)) (hW : MWd (0, q)) (hD : DgC (0, q)) {K M : Nat} (hK : id (K ≤ room_1.cells)) (hM : id (M ≤ room_1.slots)) (kk : ∀ i h, WP X 9 K M 2821 [(0, .ref 0), (1, .ref 86), (2, .ref 131), (3, .ref 139), (4, .ref 140), (5, .int (w i))] [] h) :
    ∀ (r i B k n : Nat) (h : PH), Inv B q h → i ≤ N → N < i + 4 * r + 4 → B + 600 * r < 1000000000 → k + 32 * r ≤ K → n + 1990 * r ≤ M → WP X 9 k n 28 [(0, .ref 0), (1, .ref 86), (2, .ref 131), (3, .ref 139), (4, .ref 140), (5, .int (w i))] [] h := by
  intro r
  induction r with
  | zero =>
    intro i B k n h V h1 h2 _ h4 h5
    refine z_iload E 5 dL_law_28 rfl ?_
    refine z_aload_n E 0 dL_law_30 rfl ?_
    refine z_alenK (N := 0) (x := w N) E dL_law_31 ((V.1.2 0 (by decide)).trans hq) (by decide) rfl ?_
    refine z_iconst E dL_law_32 ic_4 ?_
    refine z_isub E dL_law_33 ?_
    refine z_icmp_gtT (tgt := 2821) E dL_law_34 (by decide) ?_ (z_wide (by omega) (by omega) (kk i h))
    show w N - w 4 < w i
    by_cases c : N < 4
    · exact law_lt N c i (by omega)
    · rw [w_sub (by omega), w_lt (by omega) (by omega)]
      omega
  | succ r ih =>
    intro i B k n h V h1 h2 h3 h4 h5
    have a2 : B + 600 < 1000000000 := by omega
    have a3 : k + 32 ≤ K := by omega
    have a4 : n + 1990 ≤ M := by omega
    refine z_iload E 5 dL_law_28 rfl ?_
    refine z_aload_n E 0 dL_law_30 rfl ?_
    refine z_alenK (N := 0) (x := w N) E dL_law_31 ((V.1.2 0 (by decide)).trans hq) (by decide) rfl ?_
    refine z_iconst E dL_law_32 ic_4 ?_
    refine z_isub E dL_law_33 ?_
    by_cases c : N < i + 4
    · refine z_icmp_gtT (tgt := 2821) E dL_law_34 (by decide) ?_ (z_wide (by omega) (by omega) (kk i h))
      show w N - w 4 < w i
      by_cases c : N < 4
      · exact law_lt N c i (by omega)
      · rw [w_sub (by omega), w_lt (by omega) (by omega)]
        omega
    · refine z_icmp_gtF (tgt := 2821) E dL_law_34 (by decide) ?_ ?_
      · show ¬ w N - w 4 < w i
        rw [w_sub (by omega), w_lt (by omega) (by omega)]
        omega
      refine z_aload_n E 0 dL_law_37 rfl ?_
      refine z_iload E 5 dL_law_38 rfl ?_
      refine z_iald E dL_law_40 (alI_of ((V.1.2 0 (by decide)).trans hq) (by omega) (show i < N by omega)) ?_
      refine z_bipush E dL_law_41 bp_63 ?_
      refine z_iand E dL_law_43 ?_
      obtain ⟨v, hv, e⟩ := and63 (sc i)
      rw [e]
      refine law_case E V hq hN hP hT hW hD (Nat.not_lt.mp c) a2 (Nat.le_trans a3 hK) (Nat.le_trans a4 hM) hv (fun h1 V1 => ?_)
      refine z_iinc (v := w (i + 4)) (lv2 := [(5, .int (w (i + 4))), (0, .ref 0), (1, .ref 86), (2, .ref 131), (3, .ref 139), (4, .ref 140)]) E 5 dL_law_2815 rfl (w_add i 4) (by decide) rfl ?_
      refine z_goto (tgt := 28) E dL_law_2818 (by decide) ?_
      refine z_sub (lv' := [(0, .ref 0), (1, .ref 86), (2, .ref 131), (3, .ref 139), (4, .ref 140), (5, .int (w (i + 4)))]) [1, 2, 3, 4, 5, 0] rfl ?_
      exact ih (i + 4) (B + 600) (k + 32) (n + 1990) h1 V1 (by omega) (by omega) (by omega) (by omega) (by omega)
end LOOP
