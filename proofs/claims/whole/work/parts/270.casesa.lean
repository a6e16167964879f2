/-! the law's cases whose calls throw nothing -/
section CASESA
variable {B : Nat} {q : Nat → PC} {h : PH} {v5 : Int32}
theorem case_3 (V : Inv B q h) : ∃ h1, f_L_case3 h 0 86 131 139 140 v5 = some h1 ∧ Inv B q h1 := by
  obtain ⟨C, OL, OD, g, K, c, sn, d1, d2, d3, t, l, n, e, I, M, T⟩ := V
  have T9 := T
  obtain ⟨rfl, -⟩ := T9
  obtain ⟨so, Ob⟩ := I.ob
  have S := I.sg
  have O := I.ok
  obtain ⟨h1, e1, M1, F1, G1⟩ := mcode0 O M
  refine ⟨h1, ?_, invA C OL OD (fr.refl _ _) I F1 M1 (T.cod 0)⟩
  unfold f_L_case3 f_X9_noteCount f_X10_noteCount
  simp only [Ob.gd, Ob.r0, S.gd, Option.bind_some, M.gd, e1, G1.r0, G1.gd, S.i0, G1.n0]
  first | exact if_pos rfl | exact if_pos trivial
theorem case_25 (V : Inv B q h) : ∃ h1, f_L_case25 h 0 86 131 139 140 v5 = some h1 ∧ Inv B q h1 := by
  obtain ⟨C, OL, OD, g, K, c, sn, d1, d2, d3, t, l, n, e, I, M, T⟩ := V
  have T9 := T
  obtain ⟨rfl, -⟩ := T9
  obtain ⟨so, Ob⟩ := I.ob
  have S := I.sg
  have O := I.ok
  obtain ⟨h1, e1, M1, F1, G1⟩ := mcode0 O M
  refine ⟨h1, ?_, invA C OL OD (fr.refl _ _) I F1 M1 (T.cod 0)⟩
  unfold f_L_case25 f_X9_netCount f_X10_netCount
  simp only [Ob.gd, Ob.r0, S.gd, Option.bind_some, M.gd, e1, G1.r0, G1.gd, S.i8, G1.n1]
  first | exact if_pos rfl | exact if_pos trivial
theorem case_31 (V : Inv B q h) : ∃ h1, f_L_case31 h 0 86 131 139 140 v5 = some h1 ∧ Inv B q h1 := by
  obtain ⟨C, OL, OD, g, K, c, sn, d1, d2, d3, t, l, n, e, I, M, T⟩ := V
  have T9 := T
  obtain ⟨rfl, -⟩ := T9
  obtain ⟨so, Ob⟩ := I.ob
  have S := I.sg
  have O := I.ok
  obtain ⟨h1, e1, M1, F1, G1⟩ := mcode0 O M
  have th : f_X10_those h1 131 (1 : Int32) = some (w (gs (e 0) 1)) := mthose G1 (c := 1) (by decide)
  have hs := gs_lt O 1
  have mb : f_X10_bits (w (gs (e 0) 1)) = some (w (gc (e 0) 1)) := by rw [mbits (by omega), pop_gs O]
  refine ⟨h1, ?_, invA C OL OD (fr.refl _ _) I F1 M1 (T.cod 0)⟩
  unfold f_L_case31 f_X9_heldCount f_X10_heldCount
  simp only [Ob.gd, Ob.r0, S.gd, Option.bind_some, M.gd, e1, G1.r0, G1.gd, count_ok S (c := 104) (i := 1) (fun n hn => wc_1 hn), th, mb]
  first | exact if_pos rfl | exact if_pos trivial
theorem case_38 (V : Inv B q h) : ∃ h1, f_L_case38 h 0 86 131 139 140 v5 = some h1 ∧ Inv B q h1 := by
  obtain ⟨C, OL, OD, g, K, c, sn, d1, d2, d3, t, l, n, e, I, M, T⟩ := V
  have T9 := T
  obtain ⟨rfl, -⟩ := T9
  obtain ⟨so, Ob⟩ := I.ob
  have S := I.sg
  have O := I.ok
  obtain ⟨h1, e1, M1, F1, G1⟩ := mcode0 O M
  refine ⟨h1, ?_, invA C OL OD (fr.refl _ _) I F1 M1 (T.cod 0)⟩
  unfold f_L_case38 f_X9_day f_X10_day
  simp only [Ob.gd, Ob.r0, S.gd, Option.bind_some, M.gd, e1, G1.r0, G1.gd, S.i13, G1.n2]
  first | exact if_pos rfl | exact if_pos trivial
theorem case_39 (V : Inv B q h) : ∃ h1, f_L_case39 h 0 86 131 139 140 v5 = some h1 ∧ Inv B q h1 := by
  obtain ⟨C, OL, OD, g, K, c, sn, d1, d2, d3, t, l, n, e, I, M, T⟩ := V
  have T9 := T
  obtain ⟨rfl, -⟩ := T9
  obtain ⟨so, Ob⟩ := I.ob
  have S := I.sg
  have O := I.ok
  obtain ⟨h1, e1, M1, F1, G1⟩ := mcode0 O M
  refine ⟨h1, ?_, invA C OL OD (fr.refl _ _) I F1 M1 (T.cod 0)⟩
  unfold f_L_case39 f_X9_season f_X10_season
  simp only [Ob.gd, Ob.r0, S.gd, Option.bind_some, M.gd, e1, G1.r0, G1.gd, season_ok S, mseason G1]
  first | exact if_pos rfl | exact if_pos trivial
theorem case_40 (V : Inv B q h) : ∃ h1, f_L_case40 h 0 86 131 139 140 v5 = some h1 ∧ Inv B q h1 := by
  obtain ⟨C, OL, OD, g, K, c, sn, d1, d2, d3, t, l, n, e, I, M, T⟩ := V
  have T9 := T
  obtain ⟨rfl, -⟩ := T9
  obtain ⟨so, Ob⟩ := I.ob
  have S := I.sg
  have O := I.ok
  obtain ⟨h1, e1, M1, F1, G1⟩ := mcode0 O M
  have a4 : alI .int h1 (131 + 1) (4 : Int32) = some (e 0 4) := G1.a (i := 4) (by decide)
  refine ⟨h1, ?_, invA C OL OD (fr.refl _ _) I F1 M1 (T.cod 0)⟩
  unfold f_L_case40 f_X9_coins f_X10_coins
  simp only [Ob.gd, Ob.r0, S.gd, Option.bind_some, M.gd, e1, G1.r0, G1.gd, S.i14, a4]
  first | exact if_pos rfl | exact if_pos trivial
theorem case_41 (V : Inv B q h) : ∃ h1, f_L_case41 h 0 86 131 139 140 v5 = some h1 ∧ Inv B q h1 := by
  obtain ⟨C, OL, OD, g, K, c, sn, d1, d2, d3, t, l, n, e, I, M, T⟩ := V
  have T9 := T
  obtain ⟨rfl, -⟩ := T9
  obtain ⟨so, Ob⟩ := I.ob
  have S := I.sg
  have O := I.ok
  obtain ⟨h1, e1, M1, F1, G1⟩ := mcode0 O M
  have a5 : alI .int h1 (131 + 1) (5 : Int32) = some (e 0 5) := G1.a (i := 5) (by decide)
  refine ⟨h1, ?_, invA C OL OD (fr.refl _ _) I F1 M1 (T.cod 0)⟩
  unfold f_L_case41 f_X9_caught f_X10_caught
  simp only [Ob.gd, Ob.r0, S.gd, Option.bind_some, M.gd, e1, G1.r0, G1.gd, S.i15, a5]
  first | exact if_pos rfl | exact if_pos trivial
theorem case_42 (V : Inv B q h) : ∃ h1, f_L_case42 h 0 86 131 139 140 v5 = some h1 ∧ Inv B q h1 := by
  obtain ⟨C, OL, OD, g, K, c, sn, d1, d2, d3, t, l, n, e, I, M, T⟩ := V
  have T9 := T
  obtain ⟨rfl, -⟩ := T9
  obtain ⟨so, Ob⟩ := I.ob
  have S := I.sg
  have O := I.ok
  obtain ⟨h1, e1, M1, F1, G1⟩ := mcode0 O M
  have a6 : alI .int h1 (131 + 1) (6 : Int32) = some (w (gc (e 0) 2)) := (G1.a (i := 6) (by decide)).trans (congrArg some O.g6)
  refine ⟨h1, ?_, invA C OL OD (fr.refl _ _) I F1 M1 (T.cod 0)⟩
  unfold f_L_case42 f_X9_landed f_X10_landed
  simp only [Ob.gd, Ob.r0, S.gd, Option.bind_some, M.gd, e1, G1.r0, G1.gd, count_ok S (c := 108) (i := 2) (fun n hn => wc_2 hn), a6]
  first | exact if_pos rfl | exact if_pos trivial
theorem case_43 (V : Inv B q h) : ∃ h1, f_L_case43 h 0 86 131 139 140 v5 = some h1 ∧ Inv B q h1 := by
  obtain ⟨C, OL, OD, g, K, c, sn, d1, d2, d3, t, l, n, e, I, M, T⟩ := V
  have T9 := T
  obtain ⟨rfl, -⟩ := T9
  obtain ⟨so, Ob⟩ := I.ob
  have S := I.sg
  have O := I.ok
  obtain ⟨h1, e1, M1, F1, G1⟩ := mcode0 O M
  have a7 : alI .int h1 (131 + 1) (7 : Int32) = some (e 0 7) := G1.a (i := 7) (by decide)
  refine ⟨h1, ?_, invA C OL OD (fr.refl _ _) I F1 M1 (T.cod 0)⟩
  unfold f_L_case43 f_X9_returned f_X10_returned
  simp only [Ob.gd, Ob.r0, S.gd, Option.bind_some, M.gd, e1, G1.r0, G1.gd, S.i16, a7]
  first | exact if_pos rfl | exact if_pos trivial
theorem case_37 (V : Inv B q h) : ∃ h1, f_L_case37 h 0 86 131 139 140 v5 = some h1 ∧ Inv B q h1 := by
  obtain ⟨C, OL, OD, g, K, c, sn, d1, d2, d3, t, l, n, e, I, M, T⟩ := V
  have T9 := T
  obtain ⟨rfl, -⟩ := T9
  obtain ⟨so, Ob⟩ := I.ob
  have S := I.sg
  have O := I.ok
  obtain ⟨h1, e1, M1, F1, G1⟩ := mcode0 O M
  have a3 : alI .int h1 (131 + 1) (3 : Int32) = some (e 0 3) := G1.a (i := 3) (by decide)
  have zl : zn .boolean (e 0 3) = some (e 0 3) := by rcases O.li with y | y <;> rw [y] <;> rfl
  refine ⟨h1, ?_, invA C OL OD (fr.refl _ _) I F1 M1 (T.cod 0)⟩
  unfold f_L_case37 f_X9_hasLicence f_X10_hasLicence
  simp only [Ob.gd, Ob.r0, S.gd, Option.bind_some, M.gd, e1, G1.r0, G1.gd, S.i12, a3, zl]
  rcases O.li with y | y <;> rw [y] <;> rfl
theorem case_55 (V : Inv B q h) : ∃ h1, f_L_case55 h 0 86 131 139 140 v5 = some h1 ∧ Inv B q h1 := by
  obtain ⟨C, OL, OD, g, K, c, sn, d1, d2, d3, t, l, n, e, I, M, T⟩ := V
  have T9 := T
  obtain ⟨rfl, -⟩ := T9
  obtain ⟨so, Ob⟩ := I.ob
  have S := I.sg
  have O := I.ok
  obtain ⟨N, R, Hi⟩ := I.hi
  obtain ⟨h1, e1, M1, F1, G1⟩ := mcode0 O M
  have h5 : rdI h1 131 12 5 = some (w c) := by
    rw [M1.i5]
    exact congrArg some T.2.1.2.1
  refine ⟨h1, ?_, invA C OL OD (fr.refl _ _) I F1 M1 (T.cod 0)⟩
  unfold f_L_case55 f_X9_undoCount f_X10_undoCount
  simp only [Ob.gd, Ob.r2, Option.bind_some, M.gd, e1, Hi.i2, h5]
  first | exact if_pos rfl | exact if_pos trivial
theorem case_10 (V : Inv B q h) : ∃ h1, f_L_case10 h 0 86 131 139 140 v5 = some h1 ∧ Inv B q h1 := by
  obtain ⟨C, OL, OD, g, K, c, sn, d1, d2, d3, t, l, n, e, I, M, T⟩ := V
  have T9 := T
  obtain ⟨rfl, -⟩ := T9
  obtain ⟨so, Ob⟩ := I.ob
  have S := I.sg
  have O := I.ok
  obtain ⟨z, Z, U⟩ := I.ciU
  obtain ⟨h2, z2, e2, Z2, F2⟩ := countByDepth_ok S Z (fun i hi => ci_no hi)
  obtain ⟨I2, Fc⟩ := U h2 z2 Z2 F2
  have M2 := moc_cW M Fc
  obtain ⟨h1, e1, M1, F1, G1⟩ := mcode0 O M2
  refine ⟨h1, ?_, invA C OL OD Fc I2 F1 M1 (T.cod 0)⟩
  unfold f_L_case10 f_X9_circles f_X10_circles
  simp only [Ob.gd, Ob.r0, Ob.r4, Z.gd, e2, S.gd, Option.bind_some, M2.gd, e1, G1.r0, G1.gd, mrounds G1]
  first | exact if_pos rfl | exact if_pos trivial
theorem case_11 (V : Inv B q h) : ∃ h1, f_L_case11 h 0 86 131 139 140 v5 = some h1 ∧ Inv B q h1 := by
  obtain ⟨C, OL, OD, g, K, c, sn, d1, d2, d3, t, l, n, e, I, M, T⟩ := V
  have T9 := T
  obtain ⟨rfl, -⟩ := T9
  obtain ⟨so, Ob⟩ := I.ob
  have S := I.sg
  have O := I.ok
  obtain ⟨z, Z, U⟩ := I.ciU
  obtain ⟨h2, z2, e2, Z2, F2⟩ := countByTable_ok S Z (fun i hi => ci_no hi)
  obtain ⟨I2, Fc⟩ := U h2 z2 Z2 F2
  have M2 := moc_cW M Fc
  obtain ⟨h1, e1, M1, F1, G1⟩ := mcode0 O M2
  refine ⟨h1, ?_, invA C OL OD Fc I2 F1 M1 (T.cod 0)⟩
  unfold f_L_case11 f_X9_circlesByTable f_X10_circlesByTable
  simp only [Ob.gd, Ob.r0, Ob.r4, Z.gd, e2, S.gd, Option.bind_some, M2.gd, e1, G1.r0, G1.gd, mrounds G1]
  first | exact if_pos rfl | exact if_pos trivial
theorem case_13 (V : Inv B q h) : ∃ h1, f_L_case13 h 0 86 131 139 140 v5 = some h1 ∧ Inv B q h1 := by
  obtain ⟨C, OL, OD, g, K, c, sn, d1, d2, d3, t, l, n, e, I, M, T⟩ := V
  have T9 := T
  obtain ⟨rfl, -⟩ := T9
  obtain ⟨so, Ob⟩ := I.ob
  have S := I.sg
  have O := I.ok
  obtain ⟨z, Z, U⟩ := I.ciU
  obtain ⟨h2, z2, e2, Z2, F2⟩ := indexByOrder_ok S Z (fun i hi => ci_no hi)
  obtain ⟨I2, Fc⟩ := U h2 z2 Z2 F2
  have M2 := moc_cW M Fc
  obtain ⟨h1, e1, M1, F1, G1⟩ := mcode0 O M2
  refine ⟨h1, ?_, invA C OL OD Fc I2 F1 M1 (T.cod 0)⟩
  unfold f_L_case13 f_X9_index f_X10_index
  simp only [Ob.gd, Ob.r0, Ob.r4, Z.gd, e2, S.gd, Option.bind_some, M2.gd, e1, G1.r0, G1.gd, mindex_ok G1]
  first | exact if_pos rfl | exact if_pos trivial
theorem case_14 (V : Inv B q h) : ∃ h1, f_L_case14 h 0 86 131 139 140 v5 = some h1 ∧ Inv B q h1 := by
  obtain ⟨C, OL, OD, g, K, c, sn, d1, d2, d3, t, l, n, e, I, M, T⟩ := V
  have T9 := T
  obtain ⟨rfl, -⟩ := T9
  obtain ⟨so, Ob⟩ := I.ob
  have S := I.sg
  have O := I.ok
  obtain ⟨z, Z, U⟩ := I.ciU
  obtain ⟨h2, z2, e2, Z2, F2⟩ := indexByTally_ok S Z (fun i hi => ci_no hi)
  obtain ⟨I2, Fc⟩ := U h2 z2 Z2 F2
  have M2 := moc_cW M Fc
  obtain ⟨h1, e1, M1, F1, G1⟩ := mcode0 O M2
  refine ⟨h1, ?_, invA C OL OD Fc I2 F1 M1 (T.cod 0)⟩
  unfold f_L_case14 f_X9_indexByCounts f_X10_indexByCounts
  simp only [Ob.gd, Ob.r0, Ob.r4, Z.gd, e2, S.gd, Option.bind_some, M2.gd, e1, G1.r0, G1.gd, mindex_ok G1]
  first | exact if_pos rfl | exact if_pos trivial
theorem case_32 (V : Inv B q h) : ∃ h1, f_L_case32 h 0 86 131 139 140 v5 = some h1 ∧ Inv B q h1 := by
  obtain ⟨C, OL, OD, g, K, c, sn, d1, d2, d3, t, l, n, e, I, M, T⟩ := V
  have T9 := T
  obtain ⟨rfl, -⟩ := T9
  obtain ⟨so, Ob⟩ := I.ob
  have S := I.sg
  have O := I.ok
  have J := JB.of ⟨O, e, M, rfl⟩
  have gs := gA_small J O
  obtain ⟨f, u, Z, U⟩ := I.laU
  obtain ⟨h2, f2, e2, Z2, F2⟩ := choose_ok S Z (fun i hi => la_no hi)
  obtain ⟨I2, Fc⟩ := U h2 f2 u Z2 F2
  have M2 := moc_cW M Fc
  obtain ⟨h1, e1, M1, F1, G1⟩ := mcode0 O M2
  refine ⟨h1, ?_, invA C OL OD Fc I2 F1 M1 (T.cod 0)⟩
  unfold f_L_case32 f_X9_bestLanding f_X10_bestLanding
  simp only [Ob.gd, Ob.r0, Ob.r3, Z.gd, e2, S.gd, I2.sg.gd, weightOfAll_ok I2.sg (show gA (e 0) < 2147483648 by omega), Option.bind_some, M2.gd, e1, G1.r0, G1.gd, mlanding G1, mheavy G1 (show gA (e 0) < 2147483648 by omega)]
  first | exact if_pos rfl | exact if_pos trivial
theorem case_33 (V : Inv B q h) : ∃ h1, f_L_case33 h 0 86 131 139 140 v5 = some h1 ∧ Inv B q h1 := by
  obtain ⟨C, OL, OD, g, K, c, sn, d1, d2, d3, t, l, n, e, I, M, T⟩ := V
  have T9 := T
  obtain ⟨rfl, -⟩ := T9
  obtain ⟨so, Ob⟩ := I.ob
  have S := I.sg
  have O := I.ok
  have J := JB.of ⟨O, e, M, rfl⟩
  have gs := gA_small J O
  obtain ⟨f, u, Z, U⟩ := I.laU
  obtain ⟨h2, u2, e2, Z2, F2⟩ := heaviestSet_ok S Z J (fun i hi => la_no hi)
  obtain ⟨I2, Fc⟩ := U h2 f u2 Z2 F2
  have M2 := moc_cW M Fc
  obtain ⟨h1, e1, M1, F1, G1⟩ := mcode0 O M2
  refine ⟨h1, ?_, invA C OL OD Fc I2 F1 M1 (T.cod 0)⟩
  unfold f_L_case33 f_X9_bestLandingBySets f_X10_bestLandingBySets
  simp only [Ob.gd, Ob.r0, Ob.r3, Z.gd, e2, S.gd, Option.bind_some, M2.gd, e1, G1.r0, G1.gd, mlanding G1, mheavy G1 (show gA (e 0) < 2147483648 by omega)]
  first | exact if_pos rfl | exact if_pos trivial
end CASESA
