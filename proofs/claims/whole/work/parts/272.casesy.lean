/-! the law's cases of the readers that answer yes or no -/
section CASESY
variable {B : Nat} {q : Nat → PC} {h h1 h2 : PH} {i N c n k : Nat} {sc : Nat → Int32} {x y : Int32} {g : GS} {so : Option Nat} {e : CS} {b : Bool}
theorem wb_ok (W : asL h 139 (0 : Int32) (if b then (1 : Int64) else 0) = some h1) : (if b = false then (asL h 139 (0 : Int32) (0 : Int64)).bind fun h9 => some ((0 : Int32), h9) else (asL h 139 (0 : Int32) (1 : Int64)).bind fun h11 => some ((0 : Int32), h11)) = some ((0 : Int32), h1) := by
  cases b
  · have W1 : asL h 139 (0 : Int32) (0 : Int64) = some h1 := W
    rw [if_pos rfl, W1]; rfl
  · have W1 : asL h 139 (0 : Int32) (1 : Int64) = some h1 := W
    rw [if_neg (by decide), W1]; rfl
theorem bb_ok (p : PH) : (if b = false then some (false, p) else some (true, p)) = some (b, p) := by cases b <;> rfl
theorem bn_ok (p : PH) : (if ¬ b = true then some (false, p) else some (true, p)) = some (b, p) := by cases b <;> rfl
theorem case_8 (V : Inv B q h) (hq : q 0 = .inl (.int, N, .inl sc)) (hN : N ≤ 2048) (hi : i + 4 ≤ N) : ∃ h1, f_L_case8 h 0 86 131 139 140 (w i) = some h1 ∧ Inv B q h1 := by
  obtain ⟨C, OL, OD, g, K, c, sn, d1, d2, d3, t, l, n, e, I, M, T⟩ := V
  have T9 := T
  obtain ⟨rfl, -⟩ := T9
  obtain ⟨so, Ob⟩ := I.ob
  have S := I.sg
  have O := I.ok
  have hn := O.n
  have hm := O.m
  have a1 : ∀ {p : PH}, Cst q p → alI .int p 0 (w i + (1 : Int32)) = some (sc (i + 1)) := fun C1 => scr_at C1 hq hN (j := 1) (by omega)
  generalize sc (i + 1) = x at a1
  have a2 : ∀ {p : PH}, Cst q p → alI .int p 0 (w i + (2 : Int32)) = some (sc (i + 2)) := fun C1 => scr_at C1 hq hN (j := 2) (by omega)
  generalize sc (i + 2) = y at a2
  by_cases c0 : isN (e 0) x = true
  · by_cases c1 : isN (e 0) y = true
    · obtain ⟨k, hk, rfl⟩ := (isN_iff (g := e 0) (by omega)).mp c0
      obtain ⟨j, hj, rfl⟩ := (isN_iff (g := e 0) (by omega)).mp c1
      have gu := gU_lt O hk
      have E : f_X9_doesCite h 86 (w k) (w j) = some (Sum.inr ((gU (e 0) k).testBit j)) := by
        unfold f_X9_doesCite
        simp only [Option.bind_some, Sum.elim_inr, Sum.elim_inl, Ob.gd, Ob.r0, S.gd, needNote1 Ob S c0, needNote1 Ob S c1, S.r4, S.a4 hk, has_w (show gU (e 0) k < 2147483648 by omega) (show j < 31 by omega)]
      obtain ⟨h1, W, L⟩ := LW.val C OL OD I M (if (gU (e 0) k).testBit j then (1 : Int64) else 0)
      have M1 := L.2.2.2.2.2
      obtain ⟨h2, e2, M2, F2⟩ := mturn_both O M1 (by rw [c0]; decide) c1
      have G2 := mg0 O M2
      have tc : f_X10_thrown h2 131 = some 0 := thrown_of M2
      have EM : f_X10_doesCite h1 131 (w k) (w j) = some ((gU (e 0) k).testBit j, h2) := by
        unfold f_X10_doesCite
        simp only [M1.gd, Option.bind_some, e2, if_neg (show ¬ (false = true) by decide), M2.gd, mciting G2 hk hj]
        exact bb_ok _
      have EW : f_L_doesCite h 86 (w k) (w j) 139 = some (0, h1) := by
        unfold f_L_doesCite
        simp only [E, Option.bind_some, Ob.gd, Sum.elim_inr]
        exact wb_ok W
      refine ⟨h2, ?_, Inv.of L F2 M2 (T.eF 0)⟩
      unfold f_L_case8
      simp only [a1 C, a2 C, EW, Option.bind_some, a1 L.1, a2 L.1, M1.gd, EM, M2.gd, tc]
      first | exact law_ifB L F2 (fun _ => rfl) | exact (if_pos trivial).trans (law_xB L F2 (fun _ => rfl))
    · have c1 : isN (e 0) y = false := by simpa using c1
      have E : f_X9_doesCite h 86 x y = some (Sum.inl "java/util/NoSuchElementException") := by
        unfold f_X9_doesCite
        simp only [Option.bind_some, Sum.elim_inr, Sum.elim_inl, Ob.gd, Ob.r0, S.gd, needNote1 Ob S c0, needNote0 Ob S c1]
      have L := LW.thr (q := q) (code := 1) (by decide) C OL OD I M 0
      obtain ⟨h2, e2, M2, F2⟩ := mare1 (x := x) (y := y) O M (Or.inr c1)
      have tc : f_X10_thrown h2 131 = some 1 := thrown_of M2
      have EW : f_L_doesCite h 86 x y 139 = some (1, h) := by
        unfold f_L_doesCite
        simp only [E, Option.bind_some, Ob.gd, Sum.elim_inl]
        simp
      refine ⟨h2, ?_, Inv.of L F2 M2 (T.eF 1)⟩
      unfold f_L_case8 f_X10_doesCite
      simp only [a1 C, a2 C, EW, Option.bind_some, M.gd, e2, if_true, M2.gd, tc]
      first | exact law_ifB (b := false) L F2 (fun z => absurd z (by decide)) | exact (if_pos trivial).trans (law_xB (b := false) L F2 (fun z => absurd z (by decide)))
  · have c0 : isN (e 0) x = false := by simpa using c0
    have E : f_X9_doesCite h 86 x y = some (Sum.inl "java/util/NoSuchElementException") := by
      unfold f_X9_doesCite
      simp only [Option.bind_some, Sum.elim_inr, Sum.elim_inl, Ob.gd, Ob.r0, S.gd, needNote0 Ob S c0]
    have L := LW.thr (q := q) (code := 1) (by decide) C OL OD I M 0
    obtain ⟨h2, e2, M2, F2⟩ := mare1 (x := x) (y := y) O M (Or.inl c0)
    have tc : f_X10_thrown h2 131 = some 1 := thrown_of M2
    have EW : f_L_doesCite h 86 x y 139 = some (1, h) := by
      unfold f_L_doesCite
      simp only [E, Option.bind_some, Ob.gd, Sum.elim_inl]
      simp
    refine ⟨h2, ?_, Inv.of L F2 M2 (T.eF 1)⟩
    unfold f_L_case8 f_X10_doesCite
    simp only [a1 C, a2 C, EW, Option.bind_some, M.gd, e2, if_true, M2.gd, tc]
    first | exact law_ifB (b := false) L F2 (fun z => absurd z (by decide)) | exact (if_pos trivial).trans (law_xB (b := false) L F2 (fun z => absurd z (by decide)))
theorem case_9 (V : Inv B q h) (hq : q 0 = .inl (.int, N, .inl sc)) (hN : N ≤ 2048) (hi : i + 4 ≤ N) : ∃ h1, f_L_case9 h 0 86 131 139 140 (w i) = some h1 ∧ Inv B q h1 := by
  obtain ⟨C, OL, OD, g, K, c, sn, d1, d2, d3, t, l, n, e, I, M, T⟩ := V
  have T9 := T
  obtain ⟨rfl, -⟩ := T9
  obtain ⟨so, Ob⟩ := I.ob
  have S := I.sg
  have O := I.ok
  have hn := O.n
  have hm := O.m
  have a1 : ∀ {p : PH}, Cst q p → alI .int p 0 (w i + (1 : Int32)) = some (sc (i + 1)) := fun C1 => scr_at C1 hq hN (j := 1) (by omega)
  generalize sc (i + 1) = x at a1
  have a2 : ∀ {p : PH}, Cst q p → alI .int p 0 (w i + (2 : Int32)) = some (sc (i + 2)) := fun C1 => scr_at C1 hq hN (j := 2) (by omega)
  generalize sc (i + 2) = y at a2
  by_cases c0 : isN (e 0) x = true
  · by_cases c1 : isN (e 0) y = true
    · obtain ⟨k, hk, rfl⟩ := (isN_iff (g := e 0) (by omega)).mp c0
      obtain ⟨j, hj, rfl⟩ := (isN_iff (g := e 0) (by omega)).mp c1
      have gr := small10 hn (gRe_lt O hk)
      obtain ⟨z, Z, U⟩ := I.ciU
      obtain ⟨hc, z2, es, Z2, F9⟩ := leadsTo_ok S Z (fun i hi => ci_no hi) hk hj
      obtain ⟨Ic, Fc⟩ := U hc z2 Z2 F9
      have E : f_X9_reaches h 86 (w k) (w j) = some (Sum.inr ((gRe (e 0) k).testBit j), hc) := by
        unfold f_X9_reaches
        simp only [Option.bind_some, Sum.elim_inr, Sum.elim_inl, Ob.gd, Ob.r0, S.gd, needNote1 Ob S c0, needNote1 Ob S c1, Ob.r4, Z.gd, es]
      obtain ⟨h1, W, L⟩ := LW.val (C.cW Fc) (OL.frm Fc (no_cW (by omega) (by omega))) (OD.frm Fc (no_cW (by omega) (by omega))) Ic (moc_cW M Fc) (if (gRe (e 0) k).testBit j then (1 : Int64) else 0)
      have M1 := L.2.2.2.2.2
      obtain ⟨h2, e2, M2, F2⟩ := mturn_both O M1 (by rw [c0]; decide) c1
      have G2 := mg0 O M2
      have tc : f_X10_thrown h2 131 = some 0 := thrown_of M2
      have EM : f_X10_reaches h1 131 (w k) (w j) = some ((gRe (e 0) k).testBit j, h2) := by
        unfold f_X10_reaches
        simp only [M1.gd, Option.bind_some, e2, if_neg (show ¬ (false = true) by decide), M2.gd, mreached G2 hk, w_bit (show gRe (e 0) k < 2147483648 by omega) (show j < 31 by omega), bit_1]
        exact bn_ok _
      have EW : f_L_reaches h 86 (w k) (w j) 139 = some (0, h1) := by
        unfold f_L_reaches
        simp only [E, Option.bind_some, Ob.gd, Sum.elim_inr]
        exact wb_ok W
      refine ⟨h2, ?_, Inv.of L F2 M2 (T.eF 0)⟩
      unfold f_L_case9
      simp only [a1 C, a2 C, EW, Option.bind_some, a1 L.1, a2 L.1, M1.gd, EM, M2.gd, tc]
      first | exact law_ifB L F2 (fun _ => rfl) | exact (if_pos trivial).trans (law_xB L F2 (fun _ => rfl))
    · have c1 : isN (e 0) y = false := by simpa using c1
      have E : f_X9_reaches h 86 x y = some ((Sum.inl "java/util/NoSuchElementException", h)) := by
        unfold f_X9_reaches
        simp only [Option.bind_some, Sum.elim_inr, Sum.elim_inl, Ob.gd, Ob.r0, S.gd, needNote1 Ob S c0, needNote0 Ob S c1]
      have L := LW.thr (q := q) (code := 1) (by decide) C OL OD I M 0
      obtain ⟨h2, e2, M2, F2⟩ := mare1 (x := x) (y := y) O M (Or.inr c1)
      have tc : f_X10_thrown h2 131 = some 1 := thrown_of M2
      have EW : f_L_reaches h 86 x y 139 = some (1, h) := by
        unfold f_L_reaches
        simp only [E, Option.bind_some, Ob.gd, Sum.elim_inl]
        simp
      refine ⟨h2, ?_, Inv.of L F2 M2 (T.eF 1)⟩
      unfold f_L_case9 f_X10_reaches
      simp only [a1 C, a2 C, EW, Option.bind_some, M.gd, e2, if_true, M2.gd, tc]
      first | exact law_ifB (b := false) L F2 (fun z => absurd z (by decide)) | exact (if_pos trivial).trans (law_xB (b := false) L F2 (fun z => absurd z (by decide)))
  · have c0 : isN (e 0) x = false := by simpa using c0
    have E : f_X9_reaches h 86 x y = some ((Sum.inl "java/util/NoSuchElementException", h)) := by
      unfold f_X9_reaches
      simp only [Option.bind_some, Sum.elim_inr, Sum.elim_inl, Ob.gd, Ob.r0, S.gd, needNote0 Ob S c0]
    have L := LW.thr (q := q) (code := 1) (by decide) C OL OD I M 0
    obtain ⟨h2, e2, M2, F2⟩ := mare1 (x := x) (y := y) O M (Or.inl c0)
    have tc : f_X10_thrown h2 131 = some 1 := thrown_of M2
    have EW : f_L_reaches h 86 x y 139 = some (1, h) := by
      unfold f_L_reaches
      simp only [E, Option.bind_some, Ob.gd, Sum.elim_inl]
      simp
    refine ⟨h2, ?_, Inv.of L F2 M2 (T.eF 1)⟩
    unfold f_L_case9 f_X10_reaches
    simp only [a1 C, a2 C, EW, Option.bind_some, M.gd, e2, if_true, M2.gd, tc]
    first | exact law_ifB (b := false) L F2 (fun z => absurd z (by decide)) | exact (if_pos trivial).trans (law_xB (b := false) L F2 (fun z => absurd z (by decide)))
theorem case_26 (V : Inv B q h) (hq : q 0 = .inl (.int, N, .inl sc)) (hN : N ≤ 2048) (hi : i + 4 ≤ N) : ∃ h1, f_L_case26 h 0 86 131 139 140 (w i) = some h1 ∧ Inv B q h1 := by
  obtain ⟨C, OL, OD, g, K, c, sn, d1, d2, d3, t, l, n, e, I, M, T⟩ := V
  have T9 := T
  obtain ⟨rfl, -⟩ := T9
  obtain ⟨so, Ob⟩ := I.ob
  have S := I.sg
  have O := I.ok
  have hn := O.n
  have hm := O.m
  have a1 : ∀ {p : PH}, Cst q p → alI .int p 0 (w i + (1 : Int32)) = some (sc (i + 1)) := fun C1 => scr_at C1 hq hN (j := 1) (by omega)
  generalize sc (i + 1) = x at a1
  have a2 : ∀ {p : PH}, Cst q p → alI .int p 0 (w i + (2 : Int32)) = some (sc (i + 2)) := fun C1 => scr_at C1 hq hN (j := 2) (by omega)
  generalize sc (i + 2) = y at a2
  have ep : f_X10_isPage y = f_X9_isPage y := rfl
  by_cases c0 : isM (e 0) x = true
  · by_cases c1 : f_X9_isPage y = true
    · obtain ⟨k, hk, rfl⟩ := (isM_iff (g := e 0) (by omega)).mp c0
      obtain ⟨p, hp, rfl⟩ := page_iff.mp c1
      have E : f_X9_covers h 86 (w k) (w p) = some (Sum.inr (cov (e 0) k p)) := by
        unfold f_X9_covers
        simp only [Option.bind_some, Sum.elim_inr, Sum.elim_inl, Ob.gd, Ob.r0, S.gd, needNet1 Ob S c0, needPage1 c1, isCovered_ok S hk hp]
      obtain ⟨h1, W, L⟩ := LW.val C OL OD I M (if cov (e 0) k p then (1 : Int64) else 0)
      have M1 := L.2.2.2.2.2
      have ni : f_X10_isNet h1 131 (w k) = some true := by rw [misNet ⟨O, e, M1, rfl⟩, c0]
      obtain ⟨h2, e2, M2, F2⟩ := mfail0 M1
      have G2 := mg0 O M2
      have tc : f_X10_thrown h2 131 = some 0 := thrown_of M2
      have EM : f_X10_covers h1 131 (w k) (w p) = some (cov (e 0) k p, h2) := by
        unfold f_X10_covers
        simp only [M1.gd, Option.bind_some, ni, if_true, ep, c1, if_neg (show ¬ (true = false) by decide), if_neg (show ¬ (false = true) by decide), e2, M2.gd, misCovered G2 hk hp]
        exact bb_ok _
      have EW : f_L_covers h 86 (w k) (w p) 139 = some (0, h1) := by
        unfold f_L_covers
        simp only [E, Option.bind_some, Ob.gd, Sum.elim_inr]
        exact wb_ok W
      refine ⟨h2, ?_, Inv.of L F2 M2 (T.eF 0)⟩
      unfold f_L_case26
      simp only [a1 C, a2 C, EW, Option.bind_some, a1 L.1, a2 L.1, M1.gd, EM, M2.gd, tc]
      first | exact law_ifB L F2 (fun _ => rfl) | exact (if_pos trivial).trans (law_xB L F2 (fun _ => rfl))
    · have c1 : f_X9_isPage y = false := by simpa using c1
      have E : f_X9_covers h 86 x y = some (Sum.inl "java/lang/IllegalArgumentException") := by
        unfold f_X9_covers
        simp only [Option.bind_some, Sum.elim_inr, Sum.elim_inl, Ob.gd, Ob.r0, S.gd, needNet1 Ob S c0, needPage0 c1]
      have L := LW.thr (q := q) (code := 2) (by decide) C OL OD I M 0
      have ni : f_X10_isNet h 131 x = some true := by rw [misNet ⟨O, e, M, rfl⟩, c0]
      obtain ⟨h2, e2, M2, F2⟩ := mfail2 M
      have tc : f_X10_thrown h2 131 = some 2 := thrown_of M2
      have EW : f_L_covers h 86 x y 139 = some (2, h) := by
        unfold f_L_covers
        simp only [E, Option.bind_some, Ob.gd, Sum.elim_inl]
        simp
      refine ⟨h2, ?_, Inv.of L F2 M2 (T.eF 2)⟩
      unfold f_L_case26 f_X10_covers
      simp only [a1 C, a2 C, EW, Option.bind_some, M.gd, ni, if_true, ep, c1, e2, M2.gd, tc]
      first | exact law_ifB (b := false) L F2 (fun z => absurd z (by decide)) | exact (if_pos trivial).trans (law_xB (b := false) L F2 (fun z => absurd z (by decide)))
  · have c0 : isM (e 0) x = false := by simpa using c0
    have E : f_X9_covers h 86 x y = some (Sum.inl "java/lang/IndexOutOfBoundsException") := by
      unfold f_X9_covers
      simp only [Option.bind_some, Sum.elim_inr, Sum.elim_inl, Ob.gd, Ob.r0, S.gd, needNet0 Ob S c0]
    have L := LW.thr (q := q) (code := 1) (by decide) C OL OD I M 0
    have ni : f_X10_isNet h 131 x = some false := by rw [misNet ⟨O, e, M, rfl⟩, c0]
    obtain ⟨h2, e2, M2, F2⟩ := mfail1 M
    have tc : f_X10_thrown h2 131 = some 1 := thrown_of M2
    have EW : f_L_covers h 86 x y 139 = some (1, h) := by
      unfold f_L_covers
      simp only [E, Option.bind_some, Ob.gd, Sum.elim_inl]
      simp
    refine ⟨h2, ?_, Inv.of L F2 M2 (T.eF 1)⟩
    unfold f_L_case26 f_X10_covers
    simp only [a1 C, a2 C, EW, Option.bind_some, M.gd, ni, if_true, if_neg (show ¬ (false = true) by decide), e2, M2.gd, tc]
    first | exact law_ifB (b := false) L F2 (fun z => absurd z (by decide)) | exact (if_pos trivial).trans (law_xB (b := false) L F2 (fun z => absurd z (by decide)))
theorem case_34 (V : Inv B q h) (hq : q 0 = .inl (.int, N, .inl sc)) (hN : N ≤ 2048) (hi : i + 4 ≤ N) : ∃ h1, f_L_case34 h 0 86 131 139 140 (w i) = some h1 ∧ Inv B q h1 := by
  obtain ⟨C, OL, OD, g, K, c, sn, d1, d2, d3, t, l, n, e, I, M, T⟩ := V
  have T9 := T
  obtain ⟨rfl, -⟩ := T9
  obtain ⟨so, Ob⟩ := I.ob
  have S := I.sg
  have O := I.ok
  have hn := O.n
  have hm := O.m
  have a1 : ∀ {p : PH}, Cst q p → alI .int p 0 (w i + (1 : Int32)) = some (sc (i + 1)) := fun C1 => scr_at C1 hq hN (j := 1) (by omega)
  generalize sc (i + 1) = x at a1
  have J := JB.of ⟨O, e, M, rfl⟩
  have ga := gA_small J O
  by_cases c0 : isN (e 0) x = true
  · obtain ⟨k, hk, rfl⟩ := (isN_iff (g := e 0) (by omega)).mp c0
    obtain ⟨f, u, Z, U⟩ := I.laU
    obtain ⟨hc, f2, es, Z2, F9⟩ := choose_ok S Z (fun i hi => la_no hi)
    obtain ⟨Ic, Fc⟩ := U hc f2 u Z2 F9
    have E : f_X9_wouldLand h 86 (w k) = some (Sum.inr ((gA (e 0)).testBit k), hc) := by
      unfold f_X9_wouldLand
      simp only [Option.bind_some, Sum.elim_inr, Sum.elim_inl, Ob.gd, Ob.r0, S.gd, needNote1 Ob S c0, Ob.r3, Z.gd, es, has_w (show gA (e 0) < 2147483648 by omega) (show k < 31 by omega)]
    obtain ⟨h1, W, L⟩ := LW.val (C.cW Fc) (OL.frm Fc (no_cW (by omega) (by omega))) (OD.frm Fc (no_cW (by omega) (by omega))) Ic (moc_cW M Fc) (if (gA (e 0)).testBit k then (1 : Int64) else 0)
    have M1 := L.2.2.2.2.2
    obtain ⟨h2, e2, M2, F2⟩ := misNone0 O M1 c0
    have G2 := mg0 O M2
    have tc : f_X10_thrown h2 131 = some 0 := thrown_of M2
    have EM : f_X10_wouldLand h1 131 (w k) = some ((gA (e 0)).testBit k, h2) := by
      unfold f_X10_wouldLand
      simp only [M1.gd, Option.bind_some, e2, if_neg (show ¬ (false = true) by decide), M2.gd, mlanding G2, w_bit (show gA (e 0) < 2147483648 by omega) (show k < 31 by omega), bit_1]
      exact bn_ok _
    have EW : f_L_wouldLand h 86 (w k) 139 = some (0, h1) := by
      unfold f_L_wouldLand
      simp only [E, Option.bind_some, Ob.gd, Sum.elim_inr]
      exact wb_ok W
    refine ⟨h2, ?_, Inv.of L F2 M2 (T.eF 0)⟩
    unfold f_L_case34
    simp only [a1 C, EW, Option.bind_some, a1 L.1, M1.gd, EM, M2.gd, tc]
    first | exact law_ifB L F2 (fun _ => rfl) | exact (if_pos trivial).trans (law_xB L F2 (fun _ => rfl))
  · have c0 : isN (e 0) x = false := by simpa using c0
    have E : f_X9_wouldLand h 86 x = some ((Sum.inl "java/util/NoSuchElementException", h)) := by
      unfold f_X9_wouldLand
      simp only [Option.bind_some, Sum.elim_inr, Sum.elim_inl, Ob.gd, Ob.r0, S.gd, needNote0 Ob S c0]
    have L := LW.thr (q := q) (code := 1) (by decide) C OL OD I M 0
    obtain ⟨h2, e2, M2, F2⟩ := misNone1 O M c0
    have tc : f_X10_thrown h2 131 = some 1 := thrown_of M2
    have EW : f_L_wouldLand h 86 x 139 = some (1, h) := by
      unfold f_L_wouldLand
      simp only [E, Option.bind_some, Ob.gd, Sum.elim_inl]
      simp
    refine ⟨h2, ?_, Inv.of L F2 M2 (T.eF 1)⟩
    unfold f_L_case34 f_X10_wouldLand
    simp only [a1 C, EW, Option.bind_some, M.gd, e2, if_true, M2.gd, tc]
    first | exact law_ifB (b := false) L F2 (fun z => absurd z (by decide)) | exact (if_pos trivial).trans (law_xB (b := false) L F2 (fun z => absurd z (by decide)))
end CASESY
