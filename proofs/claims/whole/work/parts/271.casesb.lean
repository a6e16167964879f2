/-! the law's cases of the readers that may throw -/
section CASESB
variable {B : Nat} {q : Nat → PC} {h h1 h2 : PH} {i N c n k : Nat} {sc : Nat → Int32} {x y : Int32} {g : GS} {so : Option Nat} {e : CS}
theorem needNote1 (Ob : ObC h so) (S : Sg B h 87 g) (c1 : isN g x = true) : f_X9_needNote h 86 x = some (Sum.inr ()) := by
  unfold f_X9_needNote
  simp only [Ob.r0, S.gd, hasNote_ok S, Option.bind_some, c1, if_true]
theorem needNote0 (Ob : ObC h so) (S : Sg B h 87 g) (c1 : isN g x = false) : f_X9_needNote h 86 x = some (Sum.inl "java/util/NoSuchElementException") := by
  unfold f_X9_needNote
  simp only [Ob.r0, S.gd, hasNote_ok S, Option.bind_some, c1, if_neg (show ¬ (false = true) by decide)]
theorem needNet1 (Ob : ObC h so) (S : Sg B h 87 g) (c1 : isM g x = true) : f_X9_needNet h 86 x = some (Sum.inr ()) := by
  unfold f_X9_needNet
  simp only [Ob.r0, S.gd, hasNet_ok S, Option.bind_some, c1, if_true]
theorem needNet0 (Ob : ObC h so) (S : Sg B h 87 g) (c1 : isM g x = false) : f_X9_needNet h 86 x = some (Sum.inl "java/lang/IndexOutOfBoundsException") := by
  unfold f_X9_needNet
  simp only [Ob.r0, S.gd, hasNet_ok S, Option.bind_some, c1, if_neg (show ¬ (false = true) by decide)]
theorem needPage1 (c1 : f_X9_isPage x = true) : f_X9_needPage x = Sum.inr () := by
  unfold f_X9_needPage
  rw [if_pos c1]
theorem needPage0 (c1 : f_X9_isPage x = false) : f_X9_needPage x = Sum.inl "java/lang/IllegalArgumentException" := by
  unfold f_X9_needPage
  rw [if_neg (by rw [c1]; decide)]
theorem mare1 (O : Ok B (e 0)) (M : MoC h 131 e) (c1 : isN (e 0) x = false ∨ isN (e 0) y = false) : ∃ h1, f_X10_areNone h 131 x y = some (true, h1) ∧ MoC h1 131 (eF e 1) ∧ fr (mW 131) h h1 := by
  have H : Mg B h 131 (e 0) := ⟨O, e, M, rfl⟩
  obtain ⟨h1, e1, M1, F1⟩ := mfail1 M
  refine ⟨h1, ?_, M1, F1⟩
  unfold f_X10_areNone
  simp only [M.gd, misNote H, Option.bind_some]
  by_cases d1 : isN (e 0) x = false
  · rw [if_pos d1, e1]; rfl
  · rw [if_neg d1]
    rcases c1 with z | z
    · exact absurd z d1
    · rw [if_pos z, e1]; rfl
theorem sg_ok (G : Mg B h 131 (e 0)) (hk : k < gN (e 0)) : f_X10_sign h 131 (w k) = some (wc (gH (e 0) k)) := by
  have hh := (G.ok.note hk).2.2.2.2.2.2.1
  unfold f_X10_sign wc
  simp only [G.gd, G.of2 hk, Option.bind_some]
  have e0 : (w (gH (e 0) k) = (0 : Int32)) = (gH (e 0) k = 0) := propext (w_inj (b := 0) (by omega) (by decide))
  have e1 : (w (gH (e 0) k) = (1 : Int32)) = (gH (e 0) k = 1) := propext (w_inj (b := 1) (by omega) (by decide))
  simp only [e0, e1]
  by_cases c0 : gH (e 0) k = 0
  · rw [if_neg (fun z => z c0), if_pos c0]
  · rw [if_pos c0, if_neg c0]
    by_cases c1 : gH (e 0) k = 1
    · rw [if_neg (fun z => z c1), if_pos c1]
    · rw [if_pos c1, if_neg c1]
theorem float_eq (O : Ok B g) {p : Nat} (hp : p < 12) : pop (gOn g p (gs g 0)) = cn (fun k => gH g k == 0 && w (gP g k) == w p) (gN g) := by
  have hn := O.n
  unfold gOn
  rw [pop_mk (by omega)]
  refine cn_ext fun k hk => ?_
  unfold gs
  rw [mk_bit]
  have e1 : (w (gP g k) == w p) = (gP g k == p) := by
    have h1 := (O.note hk).2.1
    by_cases z : gP g k = p
    · rw [z]; simp
    · have : ¬ w (gP g k) = w p := fun y => z ((w_inj (by omega) (by omega)).mp y)
      rw [beq_eq_false_iff_ne.mpr this, beq_eq_false_iff_ne.mpr z]
  rw [e1]
  simp [hk]
theorem case_4 (V : Inv B q h) (hq : q 0 = .inl (.int, N, .inl sc)) (hN : N ≤ 2048) (hi : i + 4 ≤ N) : ∃ h1, f_L_case4 h 0 86 131 139 140 (w i) = some h1 ∧ Inv B q h1 := by
  obtain ⟨C, OL, OD, g, K, c, sn, d1, d2, d3, t, l, n, e, I, M, T⟩ := V
  have T9 := T
  obtain ⟨rfl, -⟩ := T9
  obtain ⟨so, Ob⟩ := I.ob
  have S := I.sg
  have O := I.ok
  have hn := O.n
  have hm := O.m
  have a1 : ∀ {p : PH}, Cst q p → alI .int p 0 (w i + (1 : Int32)) = some (sc (i + 1)) := fun C1 => scr_at C1 hq hN (j := 1) (by omega)
  generalize sc (i + 1) = x at a1
  by_cases c0 : isN (e 0) x = true
  · obtain ⟨k, hk, rfl⟩ := (isN_iff (g := e 0) (by omega)).mp c0
    have hk31 : k < 31 := by omega
    have E : f_X9_pageOf h 86 (w k) = some (Sum.inr (w (gP (e 0) k))) := by
      unfold f_X9_pageOf
      simp only [Option.bind_some, Sum.elim_inr, Sum.elim_inl, Ob.gd, Ob.r0, S.gd, needNote1 Ob S c0, S.r1, S.a1 hk]
    obtain ⟨h1, W, L⟩ := LW.val C OL OD I M (w (gP (e 0) k)).toInt64
    have M1 := L.2.2.2.2.2
    obtain ⟨h2, e2, M2, F2⟩ := misNone0 O M1 c0
    have G2 := mg0 O M2
    have tc : f_X10_thrown h2 131 = some 0 := thrown_of M2
    refine ⟨h2, ?_, Inv.of L F2 M2 (T.eF 0)⟩
    unfold f_L_case4 f_L_pageOf f_X10_pageOf
    simp only [a1 C, E, Option.bind_some, Ob.gd, Sum.elim_inr, W, a1 L.1, M1.gd, e2, if_true, G2.of0 hk, M2.gd, tc]
    first | exact law_if L F2 (fun _ => rfl) | exact (if_pos trivial).trans (law_x L F2 (fun _ => rfl))
  · have c0 : isN (e 0) x = false := by simpa using c0
    have E : f_X9_pageOf h 86 x = some (Sum.inl "java/util/NoSuchElementException") := by
      unfold f_X9_pageOf
      simp only [Option.bind_some, Sum.elim_inr, Sum.elim_inl, Ob.gd, Ob.r0, S.gd, needNote0 Ob S c0]
    have L := LW.thr (q := q) (code := 1) (by decide) C OL OD I M 0
    obtain ⟨h2, e2, M2, F2⟩ := misNone1 O M c0
    have tc : f_X10_thrown h2 131 = some 1 := thrown_of M2
    have EW : f_L_pageOf h 86 x 139 = some (1, h) := by
      unfold f_L_pageOf
      simp only [E, Option.bind_some, Ob.gd, Sum.elim_inl]
      simp
    refine ⟨h2, ?_, Inv.of L F2 M2 (T.eF 1)⟩
    unfold f_L_case4 f_X10_pageOf
    simp only [a1 C, EW, Option.bind_some, M.gd, e2, if_neg (show ¬ (true = false) by decide), M2.gd, tc]
    first | exact law_if (b := 0) L F2 (fun z => absurd z (by decide)) | exact (if_pos trivial).trans (law_x (b := 0) L F2 (fun z => absurd z (by decide)))
theorem case_5 (V : Inv B q h) (hq : q 0 = .inl (.int, N, .inl sc)) (hN : N ≤ 2048) (hi : i + 4 ≤ N) : ∃ h1, f_L_case5 h 0 86 131 139 140 (w i) = some h1 ∧ Inv B q h1 := by
  obtain ⟨C, OL, OD, g, K, c, sn, d1, d2, d3, t, l, n, e, I, M, T⟩ := V
  have T9 := T
  obtain ⟨rfl, -⟩ := T9
  obtain ⟨so, Ob⟩ := I.ob
  have S := I.sg
  have O := I.ok
  have hn := O.n
  have hm := O.m
  have a1 : ∀ {p : PH}, Cst q p → alI .int p 0 (w i + (1 : Int32)) = some (sc (i + 1)) := fun C1 => scr_at C1 hq hN (j := 1) (by omega)
  generalize sc (i + 1) = x at a1
  by_cases c0 : isN (e 0) x = true
  · obtain ⟨k, hk, rfl⟩ := (isN_iff (g := e 0) (by omega)).mp c0
    have hk31 : k < 31 := by omega
    have E : f_X9_weightOf h 86 (w k) = some (Sum.inr (w (gT (e 0) k))) := by
      unfold f_X9_weightOf
      simp only [Option.bind_some, Sum.elim_inr, Sum.elim_inl, Ob.gd, Ob.r0, S.gd, needNote1 Ob S c0, S.r2, S.a2 hk]
    obtain ⟨h1, W, L⟩ := LW.val C OL OD I M (w (gT (e 0) k)).toInt64
    have M1 := L.2.2.2.2.2
    obtain ⟨h2, e2, M2, F2⟩ := misNone0 O M1 c0
    have G2 := mg0 O M2
    have tc : f_X10_thrown h2 131 = some 0 := thrown_of M2
    refine ⟨h2, ?_, Inv.of L F2 M2 (T.eF 0)⟩
    unfold f_L_case5 f_L_weightOf f_X10_weightOf
    simp only [a1 C, E, Option.bind_some, Ob.gd, Sum.elim_inr, W, a1 L.1, M1.gd, e2, if_true, G2.of1 hk, M2.gd, tc]
    first | exact law_if L F2 (fun _ => rfl) | exact (if_pos trivial).trans (law_x L F2 (fun _ => rfl))
  · have c0 : isN (e 0) x = false := by simpa using c0
    have E : f_X9_weightOf h 86 x = some (Sum.inl "java/util/NoSuchElementException") := by
      unfold f_X9_weightOf
      simp only [Option.bind_some, Sum.elim_inr, Sum.elim_inl, Ob.gd, Ob.r0, S.gd, needNote0 Ob S c0]
    have L := LW.thr (q := q) (code := 1) (by decide) C OL OD I M 0
    obtain ⟨h2, e2, M2, F2⟩ := misNone1 O M c0
    have tc : f_X10_thrown h2 131 = some 1 := thrown_of M2
    have EW : f_L_weightOf h 86 x 139 = some (1, h) := by
      unfold f_L_weightOf
      simp only [E, Option.bind_some, Ob.gd, Sum.elim_inl]
      simp
    refine ⟨h2, ?_, Inv.of L F2 M2 (T.eF 1)⟩
    unfold f_L_case5 f_X10_weightOf
    simp only [a1 C, EW, Option.bind_some, M.gd, e2, if_neg (show ¬ (true = false) by decide), M2.gd, tc]
    first | exact law_if (b := 0) L F2 (fun z => absurd z (by decide)) | exact (if_pos trivial).trans (law_x (b := 0) L F2 (fun z => absurd z (by decide)))
theorem case_6 (V : Inv B q h) (hq : q 0 = .inl (.int, N, .inl sc)) (hN : N ≤ 2048) (hi : i + 4 ≤ N) : ∃ h1, f_L_case6 h 0 86 131 139 140 (w i) = some h1 ∧ Inv B q h1 := by
  obtain ⟨C, OL, OD, g, K, c, sn, d1, d2, d3, t, l, n, e, I, M, T⟩ := V
  have T9 := T
  obtain ⟨rfl, -⟩ := T9
  obtain ⟨so, Ob⟩ := I.ob
  have S := I.sg
  have O := I.ok
  have hn := O.n
  have hm := O.m
  have a1 : ∀ {p : PH}, Cst q p → alI .int p 0 (w i + (1 : Int32)) = some (sc (i + 1)) := fun C1 => scr_at C1 hq hN (j := 1) (by omega)
  generalize sc (i + 1) = x at a1
  by_cases c0 : isN (e 0) x = true
  · obtain ⟨k, hk, rfl⟩ := (isN_iff (g := e 0) (by omega)).mp c0
    have hk31 : k < 31 := by omega
    have E : f_X9_stateOf h 86 (w k) = some (Sum.inr (wc (gH (e 0) k))) := by
      unfold f_X9_stateOf
      simp only [Option.bind_some, Sum.elim_inr, Sum.elim_inl, Ob.gd, Ob.r0, S.gd, needNote1 Ob S c0, S.r3, S.a3 hk, wc_zn]
    obtain ⟨h1, W, L⟩ := LW.val C OL OD I M (wc (gH (e 0) k)).toInt64
    have M1 := L.2.2.2.2.2
    obtain ⟨h2, e2, M2, F2⟩ := misNone0 O M1 c0
    have G2 := mg0 O M2
    have tc : f_X10_thrown h2 131 = some 0 := thrown_of M2
    refine ⟨h2, ?_, Inv.of L F2 M2 (T.eF 0)⟩
    unfold f_L_case6 f_L_stateOf f_X10_stateOf
    simp only [a1 C, E, Option.bind_some, Ob.gd, Sum.elim_inr, W, a1 L.1, M1.gd, e2, if_true, sg_ok G2 hk, wc_zn, M2.gd, tc]
    first | exact law_if L F2 (fun _ => rfl) | exact (if_pos trivial).trans (law_x L F2 (fun _ => rfl))
  · have c0 : isN (e 0) x = false := by simpa using c0
    have E : f_X9_stateOf h 86 x = some (Sum.inl "java/util/NoSuchElementException") := by
      unfold f_X9_stateOf
      simp only [Option.bind_some, Sum.elim_inr, Sum.elim_inl, Ob.gd, Ob.r0, S.gd, needNote0 Ob S c0]
    have L := LW.thr (q := q) (code := 1) (by decide) C OL OD I M 0
    obtain ⟨h2, e2, M2, F2⟩ := misNone1 O M c0
    have tc : f_X10_thrown h2 131 = some 1 := thrown_of M2
    have EW : f_L_stateOf h 86 x 139 = some (1, h) := by
      unfold f_L_stateOf
      simp only [E, Option.bind_some, Ob.gd, Sum.elim_inl]
      simp
    refine ⟨h2, ?_, Inv.of L F2 M2 (T.eF 1)⟩
    unfold f_L_case6 f_X10_stateOf
    simp only [a1 C, EW, Option.bind_some, M.gd, e2, if_neg (show ¬ (true = false) by decide), M2.gd, tc]
    first | exact law_if (b := 0) L F2 (fun z => absurd z (by decide)) | exact (if_pos trivial).trans (law_x (b := 0) L F2 (fun z => absurd z (by decide)))
theorem case_7 (V : Inv B q h) (hq : q 0 = .inl (.int, N, .inl sc)) (hN : N ≤ 2048) (hi : i + 4 ≤ N) : ∃ h1, f_L_case7 h 0 86 131 139 140 (w i) = some h1 ∧ Inv B q h1 := by
  obtain ⟨C, OL, OD, g, K, c, sn, d1, d2, d3, t, l, n, e, I, M, T⟩ := V
  have T9 := T
  obtain ⟨rfl, -⟩ := T9
  obtain ⟨so, Ob⟩ := I.ob
  have S := I.sg
  have O := I.ok
  have hn := O.n
  have hm := O.m
  have a1 : ∀ {p : PH}, Cst q p → alI .int p 0 (w i + (1 : Int32)) = some (sc (i + 1)) := fun C1 => scr_at C1 hq hN (j := 1) (by omega)
  generalize sc (i + 1) = x at a1
  by_cases c0 : isN (e 0) x = true
  · obtain ⟨k, hk, rfl⟩ := (isN_iff (g := e 0) (by omega)).mp c0
    have hk31 : k < 31 := by omega
    have E : f_X9_citedBy h 86 (w k) = some (Sum.inr (w (gC (e 0) k))) := by
      unfold f_X9_citedBy
      simp only [Option.bind_some, Sum.elim_inr, Sum.elim_inl, Ob.gd, Ob.r0, S.gd, needNote1 Ob S c0, countCiting_ok S hk31]
    obtain ⟨h1, W, L⟩ := LW.val C OL OD I M (w (gC (e 0) k)).toInt64
    have M1 := L.2.2.2.2.2
    obtain ⟨h2, e2, M2, F2⟩ := misNone0 O M1 c0
    have G2 := mg0 O M2
    have tc : f_X10_thrown h2 131 = some 0 := thrown_of M2
    refine ⟨h2, ?_, Inv.of L F2 M2 (T.eF 0)⟩
    unfold f_L_case7 f_L_citedBy f_X10_citedBy
    simp only [a1 C, E, Option.bind_some, Ob.gd, Sum.elim_inr, W, a1 L.1, M1.gd, e2, if_true, mcited G2 hk31, M2.gd, tc]
    first | exact law_if L F2 (fun _ => rfl) | exact (if_pos trivial).trans (law_x L F2 (fun _ => rfl))
  · have c0 : isN (e 0) x = false := by simpa using c0
    have E : f_X9_citedBy h 86 x = some (Sum.inl "java/util/NoSuchElementException") := by
      unfold f_X9_citedBy
      simp only [Option.bind_some, Sum.elim_inr, Sum.elim_inl, Ob.gd, Ob.r0, S.gd, needNote0 Ob S c0]
    have L := LW.thr (q := q) (code := 1) (by decide) C OL OD I M 0
    obtain ⟨h2, e2, M2, F2⟩ := misNone1 O M c0
    have tc : f_X10_thrown h2 131 = some 1 := thrown_of M2
    have EW : f_L_citedBy h 86 x 139 = some (1, h) := by
      unfold f_L_citedBy
      simp only [E, Option.bind_some, Ob.gd, Sum.elim_inl]
      simp
    refine ⟨h2, ?_, Inv.of L F2 M2 (T.eF 1)⟩
    unfold f_L_case7 f_X10_citedBy
    simp only [a1 C, EW, Option.bind_some, M.gd, e2, if_neg (show ¬ (true = false) by decide), M2.gd, tc]
    first | exact law_if (b := 0) L F2 (fun z => absurd z (by decide)) | exact (if_pos trivial).trans (law_x (b := 0) L F2 (fun z => absurd z (by decide)))
theorem case_12 (V : Inv B q h) (hq : q 0 = .inl (.int, N, .inl sc)) (hN : N ≤ 2048) (hi : i + 4 ≤ N) : ∃ h1, f_L_case12 h 0 86 131 139 140 (w i) = some h1 ∧ Inv B q h1 := by
  obtain ⟨C, OL, OD, g, K, c, sn, d1, d2, d3, t, l, n, e, I, M, T⟩ := V
  have T9 := T
  obtain ⟨rfl, -⟩ := T9
  obtain ⟨so, Ob⟩ := I.ob
  have S := I.sg
  have O := I.ok
  have hn := O.n
  have hm := O.m
  have a1 : ∀ {p : PH}, Cst q p → alI .int p 0 (w i + (1 : Int32)) = some (sc (i + 1)) := fun C1 => scr_at C1 hq hN (j := 1) (by omega)
  generalize sc (i + 1) = x at a1
  by_cases c0 : isN (e 0) x = true
  · obtain ⟨k, hk, rfl⟩ := (isN_iff (g := e 0) (by omega)).mp c0
    have hk31 : k < 31 := by omega
    have go := small10 hn (gO_lt (g := e 0) hk)
    obtain ⟨z, Z, U⟩ := I.ciU
    obtain ⟨hc, z2, es, Z2, F9⟩ := sizeAround_ok S Z (fun i hi => ci_no hi) hk
    obtain ⟨Ic, Fc⟩ := U hc z2 Z2 F9
    have E : f_X9_circleSize h 86 (w k) = some (Sum.inr (w (pop (gO (e 0) k))), hc) := by
      unfold f_X9_circleSize
      simp only [Option.bind_some, Sum.elim_inr, Sum.elim_inl, Ob.gd, Ob.r0, S.gd, needNote1 Ob S c0, Ob.r4, Z.gd, es]
    obtain ⟨h1, W, L⟩ := LW.val (C.cW Fc) (OL.frm Fc (no_cW (by omega) (by omega))) (OD.frm Fc (no_cW (by omega) (by omega))) Ic (moc_cW M Fc) (w (pop (gO (e 0) k))).toInt64
    have M1 := L.2.2.2.2.2
    obtain ⟨h2, e2, M2, F2⟩ := misNone0 O M1 c0
    have G2 := mg0 O M2
    have tc : f_X10_thrown h2 131 = some 0 := thrown_of M2
    refine ⟨h2, ?_, Inv.of L F2 M2 (T.eF 0)⟩
    unfold f_L_case12 f_L_circleSize f_X10_circleSize
    simp only [a1 C, E, Option.bind_some, Ob.gd, Sum.elim_inr, W, a1 L.1, M1.gd, e2, if_true, mcircle G2 hk, mbits (show gO (e 0) k < 2147483648 by omega), M2.gd, tc]
    first | exact law_if L F2 (fun _ => rfl) | exact (if_pos trivial).trans (law_x L F2 (fun _ => rfl))
  · have c0 : isN (e 0) x = false := by simpa using c0
    have E : f_X9_circleSize h 86 x = some ((Sum.inl "java/util/NoSuchElementException", h)) := by
      unfold f_X9_circleSize
      simp only [Option.bind_some, Sum.elim_inr, Sum.elim_inl, Ob.gd, Ob.r0, S.gd, needNote0 Ob S c0]
    have L := LW.thr (q := q) (code := 1) (by decide) C OL OD I M 0
    obtain ⟨h2, e2, M2, F2⟩ := misNone1 O M c0
    have tc : f_X10_thrown h2 131 = some 1 := thrown_of M2
    have EW : f_L_circleSize h 86 x 139 = some (1, h) := by
      unfold f_L_circleSize
      simp only [E, Option.bind_some, Ob.gd, Sum.elim_inl]
      simp
    refine ⟨h2, ?_, Inv.of L F2 M2 (T.eF 1)⟩
    unfold f_L_case12 f_X10_circleSize
    simp only [a1 C, EW, Option.bind_some, M.gd, e2, if_neg (show ¬ (true = false) by decide), M2.gd, tc]
    first | exact law_if (b := 0) L F2 (fun z => absurd z (by decide)) | exact (if_pos trivial).trans (law_x (b := 0) L F2 (fun z => absurd z (by decide)))
theorem case_18 (V : Inv B q h) (hq : q 0 = .inl (.int, N, .inl sc)) (hN : N ≤ 2048) (hi : i + 4 ≤ N) : ∃ h1, f_L_case18 h 0 86 131 139 140 (w i) = some h1 ∧ Inv B q h1 := by
  obtain ⟨C, OL, OD, g, K, c, sn, d1, d2, d3, t, l, n, e, I, M, T⟩ := V
  have T9 := T
  obtain ⟨rfl, -⟩ := T9
  obtain ⟨so, Ob⟩ := I.ob
  have S := I.sg
  have O := I.ok
  have hn := O.n
  have hm := O.m
  have a1 : ∀ {p : PH}, Cst q p → alI .int p 0 (w i + (1 : Int32)) = some (sc (i + 1)) := fun C1 => scr_at C1 hq hN (j := 1) (by omega)
  generalize sc (i + 1) = x at a1
  have ep : f_X10_isPage x = f_X9_isPage x := rfl
  by_cases c0 : f_X9_isPage x = true
  · obtain ⟨p, hp, rfl⟩ := page_iff.mp c0
    have E : f_X9_current h 86 (w p) = some (Sum.inr (e 0 (8 + p))) := by
      unfold f_X9_current
      simp only [Option.bind_some, Sum.elim_inr, Sum.elim_inl, Ob.gd, Ob.r0, S.gd, needPage1 c0, S.r5, S.a5 hp]
    obtain ⟨h1, W, L⟩ := LW.val C OL OD I M (e 0 (8 + p)).toInt64
    have M1 := L.2.2.2.2.2
    obtain ⟨h2, e2, M2, F2⟩ := mfail0 M1
    have G2 := mg0 O M2
    have ai : alI .int h2 (131 + 1) ((8 : Int32) + w p) = some (e 0 (8 + p)) := by
      show alI .int h2 (131 + 1) (w 8 + w p) = _
      rw [w_add, G2.a (by omega)]
    have tc : f_X10_thrown h2 131 = some 0 := thrown_of M2
    refine ⟨h2, ?_, Inv.of L F2 M2 (T.eF 0)⟩
    unfold f_L_case18 f_L_current f_X10_current f_X10_ofPage
    simp only [a1 C, E, Option.bind_some, Ob.gd, Sum.elim_inr, W, a1 L.1, M1.gd, ep, c0, if_neg (show ¬ (true = false) by decide), e2, if_true, M2.r0, ai, M2.gd, tc]
    first | exact law_if L F2 (fun _ => rfl) | exact (if_pos trivial).trans (law_x L F2 (fun _ => rfl))
  · have c0 : f_X9_isPage x = false := by simpa using c0
    have E : f_X9_current h 86 x = some (Sum.inl "java/lang/IllegalArgumentException") := by
      unfold f_X9_current
      simp only [Option.bind_some, Sum.elim_inr, Sum.elim_inl, Ob.gd, Ob.r0, S.gd, needPage0 c0]
    have L := LW.thr (q := q) (code := 1) (by decide) C OL OD I M 0
    obtain ⟨h2, e2, M2, F2⟩ := mfail1 M
    have tc : f_X10_thrown h2 131 = some 1 := thrown_of M2
    have EW : f_L_current h 86 x 139 = some (1, h) := by
      unfold f_L_current
      simp only [E, Option.bind_some, Ob.gd, Sum.elim_inl]
      simp
    refine ⟨h2, ?_, Inv.of L F2 M2 (T.eF 1)⟩
    unfold f_L_case18 f_X10_current f_X10_ofPage
    simp only [a1 C, EW, Option.bind_some, M.gd, ep, c0, if_true, e2, if_neg (show ¬ (true = false) by decide), M2.gd, tc]
    first | exact law_if (b := 0) L F2 (fun z => absurd z (by decide)) | exact (if_pos trivial).trans (law_x (b := 0) L F2 (fun z => absurd z (by decide)))
theorem case_19 (V : Inv B q h) (hq : q 0 = .inl (.int, N, .inl sc)) (hN : N ≤ 2048) (hi : i + 4 ≤ N) : ∃ h1, f_L_case19 h 0 86 131 139 140 (w i) = some h1 ∧ Inv B q h1 := by
  obtain ⟨C, OL, OD, g, K, c, sn, d1, d2, d3, t, l, n, e, I, M, T⟩ := V
  have T9 := T
  obtain ⟨rfl, -⟩ := T9
  obtain ⟨so, Ob⟩ := I.ob
  have S := I.sg
  have O := I.ok
  have hn := O.n
  have hm := O.m
  have a1 : ∀ {p : PH}, Cst q p → alI .int p 0 (w i + (1 : Int32)) = some (sc (i + 1)) := fun C1 => scr_at C1 hq hN (j := 1) (by omega)
  generalize sc (i + 1) = x at a1
  have ep : f_X10_isPage x = f_X9_isPage x := rfl
  by_cases c0 : f_X9_isPage x = true
  · obtain ⟨p, hp, rfl⟩ := page_iff.mp c0
    have E : f_X9_quota h 86 (w p) = some (Sum.inr (w (gQ (e 0) p))) := by
      unfold f_X9_quota
      simp only [Option.bind_some, Sum.elim_inr, Sum.elim_inl, Ob.gd, Ob.r0, S.gd, needPage1 c0, S.r6, S.a6 hp]
    obtain ⟨h1, W, L⟩ := LW.val C OL OD I M (w (gQ (e 0) p)).toInt64
    have M1 := L.2.2.2.2.2
    obtain ⟨h2, e2, M2, F2⟩ := mfail0 M1
    have G2 := mg0 O M2
    have ai : alI .int h2 (131 + 1) ((20 : Int32) + w p) = some (w (gQ (e 0) p)) := by
      show alI .int h2 (131 + 1) (w 20 + w p) = _
      rw [w_add, G2.a (by omega), (O.page hp).2.1]
    have tc : f_X10_thrown h2 131 = some 0 := thrown_of M2
    refine ⟨h2, ?_, Inv.of L F2 M2 (T.eF 0)⟩
    unfold f_L_case19 f_L_quota f_X10_quota f_X10_ofPage
    simp only [a1 C, E, Option.bind_some, Ob.gd, Sum.elim_inr, W, a1 L.1, M1.gd, ep, c0, if_neg (show ¬ (true = false) by decide), e2, if_true, M2.r0, ai, M2.gd, tc]
    first | exact law_if L F2 (fun _ => rfl) | exact (if_pos trivial).trans (law_x L F2 (fun _ => rfl))
  · have c0 : f_X9_isPage x = false := by simpa using c0
    have E : f_X9_quota h 86 x = some (Sum.inl "java/lang/IllegalArgumentException") := by
      unfold f_X9_quota
      simp only [Option.bind_some, Sum.elim_inr, Sum.elim_inl, Ob.gd, Ob.r0, S.gd, needPage0 c0]
    have L := LW.thr (q := q) (code := 1) (by decide) C OL OD I M 0
    obtain ⟨h2, e2, M2, F2⟩ := mfail1 M
    have tc : f_X10_thrown h2 131 = some 1 := thrown_of M2
    have EW : f_L_quota h 86 x 139 = some (1, h) := by
      unfold f_L_quota
      simp only [E, Option.bind_some, Ob.gd, Sum.elim_inl]
      simp
    refine ⟨h2, ?_, Inv.of L F2 M2 (T.eF 1)⟩
    unfold f_L_case19 f_X10_quota f_X10_ofPage
    simp only [a1 C, EW, Option.bind_some, M.gd, ep, c0, if_true, e2, if_neg (show ¬ (true = false) by decide), M2.gd, tc]
    first | exact law_if (b := 0) L F2 (fun z => absurd z (by decide)) | exact (if_pos trivial).trans (law_x (b := 0) L F2 (fun z => absurd z (by decide)))
theorem case_20 (V : Inv B q h) (hq : q 0 = .inl (.int, N, .inl sc)) (hN : N ≤ 2048) (hi : i + 4 ≤ N) : ∃ h1, f_L_case20 h 0 86 131 139 140 (w i) = some h1 ∧ Inv B q h1 := by
  obtain ⟨C, OL, OD, g, K, c, sn, d1, d2, d3, t, l, n, e, I, M, T⟩ := V
  have T9 := T
  obtain ⟨rfl, -⟩ := T9
  obtain ⟨so, Ob⟩ := I.ob
  have S := I.sg
  have O := I.ok
  have hn := O.n
  have hm := O.m
  have a1 : ∀ {p : PH}, Cst q p → alI .int p 0 (w i + (1 : Int32)) = some (sc (i + 1)) := fun C1 => scr_at C1 hq hN (j := 1) (by omega)
  generalize sc (i + 1) = x at a1
  have ep : f_X10_isPage x = f_X9_isPage x := rfl
  by_cases c0 : f_X9_isPage x = true
  · obtain ⟨p, hp, rfl⟩ := page_iff.mp c0
    have E : f_X9_room h 86 (w p) = some (Sum.inr (w (gR (e 0) p))) := by
      unfold f_X9_room
      simp only [Option.bind_some, Sum.elim_inr, Sum.elim_inl, Ob.gd, Ob.r0, S.gd, needPage1 c0, room_ok S hp]
    obtain ⟨h1, W, L⟩ := LW.val C OL OD I M (w (gR (e 0) p)).toInt64
    have M1 := L.2.2.2.2.2
    obtain ⟨h2, e2, M2, F2⟩ := mfail0 M1
    have G2 := mg0 O M2
    have tc : f_X10_thrown h2 131 = some 0 := thrown_of M2
    refine ⟨h2, ?_, Inv.of L F2 M2 (T.eF 0)⟩
    unfold f_L_case20 f_L_room f_X10_room
    simp only [a1 C, E, Option.bind_some, Ob.gd, Sum.elim_inr, W, a1 L.1, M1.gd, ep, c0, if_neg (show ¬ (true = false) by decide), e2, if_true, M2.r0, mroom G2 hp, M2.gd, tc]
    first | exact law_if L F2 (fun _ => rfl) | exact (if_pos trivial).trans (law_x L F2 (fun _ => rfl))
  · have c0 : f_X9_isPage x = false := by simpa using c0
    have E : f_X9_room h 86 x = some (Sum.inl "java/lang/IllegalArgumentException") := by
      unfold f_X9_room
      simp only [Option.bind_some, Sum.elim_inr, Sum.elim_inl, Ob.gd, Ob.r0, S.gd, needPage0 c0]
    have L := LW.thr (q := q) (code := 1) (by decide) C OL OD I M 0
    obtain ⟨h2, e2, M2, F2⟩ := mfail1 M
    have tc : f_X10_thrown h2 131 = some 1 := thrown_of M2
    have EW : f_L_room h 86 x 139 = some (1, h) := by
      unfold f_L_room
      simp only [E, Option.bind_some, Ob.gd, Sum.elim_inl]
      simp
    refine ⟨h2, ?_, Inv.of L F2 M2 (T.eF 1)⟩
    unfold f_L_case20 f_X10_room
    simp only [a1 C, EW, Option.bind_some, M.gd, ep, c0, if_true, e2, if_neg (show ¬ (true = false) by decide), M2.gd, tc]
    first | exact law_if (b := 0) L F2 (fun z => absurd z (by decide)) | exact (if_pos trivial).trans (law_x (b := 0) L F2 (fun z => absurd z (by decide)))
theorem case_21 (V : Inv B q h) (hq : q 0 = .inl (.int, N, .inl sc)) (hN : N ≤ 2048) (hi : i + 4 ≤ N) : ∃ h1, f_L_case21 h 0 86 131 139 140 (w i) = some h1 ∧ Inv B q h1 := by
  obtain ⟨C, OL, OD, g, K, c, sn, d1, d2, d3, t, l, n, e, I, M, T⟩ := V
  have T9 := T
  obtain ⟨rfl, -⟩ := T9
  obtain ⟨so, Ob⟩ := I.ob
  have S := I.sg
  have O := I.ok
  have hn := O.n
  have hm := O.m
  have a1 : ∀ {p : PH}, Cst q p → alI .int p 0 (w i + (1 : Int32)) = some (sc (i + 1)) := fun C1 => scr_at C1 hq hN (j := 1) (by omega)
  generalize sc (i + 1) = x at a1
  have ep : f_X10_isPage x = f_X9_isPage x := rfl
  by_cases c0 : f_X9_isPage x = true
  · obtain ⟨p, hp, rfl⟩ := page_iff.mp c0
    have E : f_X9_floatingOn h 86 (w p) = some (Sum.inr (w (cn (fun k => gH (e 0) k == 0 && w (gP (e 0) k) == w p) (gN (e 0))))) := by
      unfold f_X9_floatingOn
      simp only [Option.bind_some, Sum.elim_inr, Sum.elim_inl, Ob.gd, Ob.r0, S.gd, needPage1 c0, countFloatingOn_ok S]
    obtain ⟨h1, W, L⟩ := LW.val C OL OD I M (w (cn (fun k => gH (e 0) k == 0 && w (gP (e 0) k) == w p) (gN (e 0)))).toInt64
    have M1 := L.2.2.2.2.2
    obtain ⟨h2, e2, M2, F2⟩ := mfail0 M1
    have G2 := mg0 O M2
    have th : f_X10_those h2 131 (0 : Int32) = some (w (gs (e 0) 0)) := mthose G2 (c := 0) (by decide)
    have s0 := gs_lt O 0
    have so := mk_small10 (p := fun k => (gs (e 0) 0).testBit k && gP (e 0) k == p) hn
    have mb : f_X10_bits (w (gOn (e 0) p (gs (e 0) 0))) = some (w (cn (fun k => gH (e 0) k == 0 && w (gP (e 0) k) == w p) (gN (e 0)))) := by
      rw [mbits (by unfold gOn; omega), float_eq O hp]
    have tc : f_X10_thrown h2 131 = some 0 := thrown_of M2
    refine ⟨h2, ?_, Inv.of L F2 M2 (T.eF 0)⟩
    unfold f_L_case21 f_L_floatingOn f_X10_floatingOn
    simp only [a1 C, E, Option.bind_some, Ob.gd, Sum.elim_inr, W, a1 L.1, M1.gd, ep, c0, if_neg (show ¬ (true = false) by decide), e2, if_true, M2.r0, th, monPage G2 hp (show gs (e 0) 0 < 2147483648 by omega), mb, M2.gd, tc]
    first | exact law_if L F2 (fun _ => rfl) | exact (if_pos trivial).trans (law_x L F2 (fun _ => rfl))
  · have c0 : f_X9_isPage x = false := by simpa using c0
    have E : f_X9_floatingOn h 86 x = some (Sum.inl "java/lang/IllegalArgumentException") := by
      unfold f_X9_floatingOn
      simp only [Option.bind_some, Sum.elim_inr, Sum.elim_inl, Ob.gd, Ob.r0, S.gd, needPage0 c0]
    have L := LW.thr (q := q) (code := 1) (by decide) C OL OD I M 0
    obtain ⟨h2, e2, M2, F2⟩ := mfail1 M
    have tc : f_X10_thrown h2 131 = some 1 := thrown_of M2
    have EW : f_L_floatingOn h 86 x 139 = some (1, h) := by
      unfold f_L_floatingOn
      simp only [E, Option.bind_some, Ob.gd, Sum.elim_inl]
      simp
    refine ⟨h2, ?_, Inv.of L F2 M2 (T.eF 1)⟩
    unfold f_L_case21 f_X10_floatingOn
    simp only [a1 C, EW, Option.bind_some, M.gd, ep, c0, if_true, e2, if_neg (show ¬ (true = false) by decide), M2.gd, tc]
    first | exact law_if (b := 0) L F2 (fun z => absurd z (by decide)) | exact (if_pos trivial).trans (law_x (b := 0) L F2 (fun z => absurd z (by decide)))
theorem case_27 (V : Inv B q h) (hq : q 0 = .inl (.int, N, .inl sc)) (hN : N ≤ 2048) (hi : i + 4 ≤ N) : ∃ h1, f_L_case27 h 0 86 131 139 140 (w i) = some h1 ∧ Inv B q h1 := by
  obtain ⟨C, OL, OD, g, K, c, sn, d1, d2, d3, t, l, n, e, I, M, T⟩ := V
  have T9 := T
  obtain ⟨rfl, -⟩ := T9
  obtain ⟨so, Ob⟩ := I.ob
  have S := I.sg
  have O := I.ok
  have hn := O.n
  have hm := O.m
  have a1 : ∀ {p : PH}, Cst q p → alI .int p 0 (w i + (1 : Int32)) = some (sc (i + 1)) := fun C1 => scr_at C1 hq hN (j := 1) (by omega)
  generalize sc (i + 1) = x at a1
  by_cases c0 : isM (e 0) x = true
  · obtain ⟨k, hk, rfl⟩ := (isM_iff (g := e 0) (by omega)).mp c0
    have hz := gZ_small O k
    have E : f_X9_catchSize h 86 (w k) = some (Sum.inr (w (pop (gZ (e 0) k)))) := by
      unfold f_X9_catchSize
      simp only [Option.bind_some, Sum.elim_inr, Sum.elim_inl, Ob.gd, Ob.r0, S.gd, needNet1 Ob S c0, catchOf_ok S hk, bitCount_w _ hz]
    obtain ⟨h1, W, L⟩ := LW.val C OL OD I M (w (pop (gZ (e 0) k))).toInt64
    have M1 := L.2.2.2.2.2
    obtain ⟨h2, e2, M2, F2⟩ := mfail0 M1
    have G2 := mg0 O M2
    have ni : f_X10_isNet h1 131 (w k) = some true := by rw [misNet ⟨O, e, M1, rfl⟩, c0]
    have tc : f_X10_thrown h2 131 = some 0 := thrown_of M2
    refine ⟨h2, ?_, Inv.of L F2 M2 (T.eF 0)⟩
    unfold f_L_case27 f_L_catchSize f_X10_catchSize
    simp only [a1 C, E, Option.bind_some, Ob.gd, Sum.elim_inr, W, a1 L.1, M1.gd, ni, if_neg (show ¬ (true = false) by decide), e2, if_true, mcatches G2 hk, mbits (show gZ (e 0) k < 2147483648 by omega), M2.gd, tc]
    first | exact law_if L F2 (fun _ => rfl) | exact (if_pos trivial).trans (law_x L F2 (fun _ => rfl))
  · have c0 : isM (e 0) x = false := by simpa using c0
    have E : f_X9_catchSize h 86 x = some (Sum.inl "java/lang/IndexOutOfBoundsException") := by
      unfold f_X9_catchSize
      simp only [Option.bind_some, Sum.elim_inr, Sum.elim_inl, Ob.gd, Ob.r0, S.gd, needNet0 Ob S c0]
    have L := LW.thr (q := q) (code := 1) (by decide) C OL OD I M 0
    obtain ⟨h2, e2, M2, F2⟩ := mfail1 M
    have ni : f_X10_isNet h 131 x = some false := by rw [misNet ⟨O, e, M, rfl⟩, c0]
    have tc : f_X10_thrown h2 131 = some 1 := thrown_of M2
    have EW : f_L_catchSize h 86 x 139 = some (1, h) := by
      unfold f_L_catchSize
      simp only [E, Option.bind_some, Ob.gd, Sum.elim_inl]
      simp
    refine ⟨h2, ?_, Inv.of L F2 M2 (T.eF 1)⟩
    unfold f_L_case27 f_X10_catchSize
    simp only [a1 C, EW, Option.bind_some, M.gd, ni, if_true, e2, if_neg (show ¬ (true = false) by decide), M2.gd, tc]
    first | exact law_if (b := 0) L F2 (fun z => absurd z (by decide)) | exact (if_pos trivial).trans (law_x (b := 0) L F2 (fun z => absurd z (by decide)))
theorem case_28 (V : Inv B q h) : ∃ h1, f_L_case28 h 0 86 131 139 140 (w i) = some h1 ∧ Inv B q h1 := by
  obtain ⟨C, OL, OD, g, K, c, sn, d1, d2, d3, t, l, n, e, I, M, T⟩ := V
  have T9 := T
  obtain ⟨rfl, -⟩ := T9
  obtain ⟨so, Ob⟩ := I.ob
  have S := I.sg
  have O := I.ok
  have hn := O.n
  have hm := O.m
  have hv := heaviestNet_ok S
  cases hb : bnt (e 0) (gM (e 0)) with
  | some b =>
    have bl := (bnt_lt _ b hb).1
    rw [hb] at hv
    have b0 : (0 : Int32) ≤ w b := (w_le (a := 0) (by decide) (by omega)).mpr (Nat.zero_le _)
    have hv : f_X7_heaviestNet h 87 = some (w b) := hv
    have E : f_X9_bestNet h 86 = some (Sum.inr (w b)) := by
      unfold f_X9_bestNet
      simp only [Option.bind_some, Sum.elim_inr, Sum.elim_inl, Ob.gd, Ob.r0, S.gd, hv]
      rw [if_pos b0]
    obtain ⟨h1, W, L⟩ := LW.val C OL OD I M (w b).toInt64
    have M1 := L.2.2.2.2.2
    have mb := mbest (B := B) (g := e 0) ⟨O, e, M1, rfl⟩
    rw [hb] at mb
    have mb : f_X10_bestNet_L4 FV h1 131 (-1 : Int32) (0 : Int32) = some (w b) := mb
    obtain ⟨h2, e2, M2, F2⟩ := mfail0 M1
    have tc : f_X10_thrown h2 131 = some 0 := thrown_of M2
    refine ⟨h2, ?_, Inv.of L F2 M2 (T.eF 0)⟩
    unfold f_L_case28 f_L_bestNet f_X10_bestNet
    simp only [E, Option.bind_some, Ob.gd, Sum.elim_inr, W, M1.gd, mb, if_pos b0, e2, if_true, M2.gd, tc]
    first | exact law_if L F2 (fun _ => rfl) | exact (if_pos trivial).trans (law_x L F2 (fun _ => rfl))
  | none =>
    rw [hb] at hv
    have b0 : ¬ (0 : Int32) ≤ -1 := by decide
    have hv : f_X7_heaviestNet h 87 = some (-1) := hv
    have E : f_X9_bestNet h 86 = some (Sum.inl "java/util/NoSuchElementException") := by
      unfold f_X9_bestNet
      simp only [Option.bind_some, Sum.elim_inr, Sum.elim_inl, Ob.gd, Ob.r0, S.gd, hv]
      rw [if_neg b0]
    have L := LW.thr (q := q) (code := 1) (by decide) C OL OD I M 0
    have mb := mbest (B := B) (g := e 0) ⟨O, e, M, rfl⟩
    rw [hb] at mb
    have mb : f_X10_bestNet_L4 FV h 131 (-1 : Int32) (0 : Int32) = some (-1) := mb
    obtain ⟨h2, e2, M2, F2⟩ := mfail1 M
    have tc : f_X10_thrown h2 131 = some 1 := thrown_of M2
    have EW : f_L_bestNet h 86 139 = some (1, h) := by
      unfold f_L_bestNet
      simp only [E, Option.bind_some, Ob.gd, Sum.elim_inl]
      simp
    refine ⟨h2, ?_, Inv.of L F2 M2 (T.eF 1)⟩
    unfold f_L_case28 f_X10_bestNet
    simp only [EW, Option.bind_some, M.gd, mb, if_neg b0, e2, if_neg (show ¬ (true = false) by decide), M2.gd, tc]
    first | exact law_if (b := 0) L F2 (fun z => absurd z (by decide)) | exact (if_pos trivial).trans (law_x (b := 0) L F2 (fun z => absurd z (by decide)))
theorem case_15 (V : Inv B q h) (hq : q 0 = .inl (.int, N, .inl sc)) (hN : N ≤ 2048) (hi : i + 4 ≤ N) : ∃ h1, f_L_case15 h 0 86 131 139 140 (w i) = some h1 ∧ Inv B q h1 := by
  obtain ⟨C, OL, OD, g, K, c, sn, d1, d2, d3, t, l, n, e, I, M, T⟩ := V
  have T9 := T
  obtain ⟨rfl, -⟩ := T9
  obtain ⟨so, Ob⟩ := I.ob
  have S := I.sg
  have O := I.ok
  have hn := O.n
  have hm := O.m
  have a1 : ∀ {p : PH}, Cst q p → alI .int p 0 (w i + (1 : Int32)) = some (sc (i + 1)) := fun C1 => scr_at C1 hq hN (j := 1) (by omega)
  generalize sc (i + 1) = x at a1
  by_cases c0 : isN (e 0) x = true
  · obtain ⟨k, hk, rfl⟩ := (isN_iff (g := e 0) (by omega)).mp c0
    obtain ⟨z, Z, U⟩ := I.ciU
    obtain ⟨hc, z2, o, es, o1, o2, Z2, F9⟩ := noteAt_ok S Z (fun i hi => ci_no hi) hk
    obtain ⟨Ic, Fc⟩ := U hc z2 Z2 F9
    have E : f_X9_noteByCitations h 86 (w k) = some (Sum.inr (w o), hc) := by
      unfold f_X9_noteByCitations
      simp only [Option.bind_some, Ob.r0, S.gd, hasNote_ok S, c0, if_true, Ob.r4, Z.gd, es]
    obtain ⟨h1, W, L⟩ := LW.val (C.cW Fc) (OL.frm Fc (no_cW (by omega) (by omega))) (OD.frm Fc (no_cW (by omega) (by omega))) Ic (moc_cW M Fc) (w o).toInt64
    have M1 := L.2.2.2.2.2
    obtain ⟨h2, e2, M2, F2⟩ := mnote_in O M1 o1 o2
    have tc : f_X10_thrown h2 131 = some 0 := thrown_of M2
    refine ⟨h2, ?_, Inv.of L F2 M2 (T.cod 0)⟩
    unfold f_L_case15 f_L_noteByCitations
    simp only [a1 C, E, Option.bind_some, Ob.gd, Sum.elim_inr, W, a1 L.1, M1.gd, e2, M2.gd, tc]
    first | exact law_if L F2 (fun _ => rfl) | exact (if_pos trivial).trans (law_x L F2 (fun _ => rfl))
  · have c0 : isN (e 0) x = false := by simpa using c0
    have E : f_X9_noteByCitations h 86 x = some (Sum.inl "java/util/NoSuchElementException", h) := by
      unfold f_X9_noteByCitations
      simp only [Option.bind_some, Ob.r0, S.gd, hasNote_ok S, c0, if_neg (show ¬ (false = true) by decide)]
    have L := LW.thr (q := q) (code := 1) (by decide) C OL OD I M 0
    obtain ⟨h2, e2, M2, F2⟩ := mnote_out O M (x := x) (fun k hk z => by rw [(isN_iff (g := e 0) (by omega)).mpr ⟨k, hk, z⟩] at c0; exact absurd c0 (by decide))
    have tc : f_X10_thrown h2 131 = some 1 := thrown_of M2
    have EW : f_L_noteByCitations h 86 x 139 = some (1, h) := by
      unfold f_L_noteByCitations
      simp only [E, Option.bind_some, Ob.gd, Sum.elim_inl]
      simp
    refine ⟨h2, ?_, Inv.of L F2 M2 (T.cod 1)⟩
    unfold f_L_case15
    simp only [a1 C, EW, Option.bind_some, M.gd, e2, M2.gd, tc]
    first | exact law_if (b := 0) L F2 (fun z => absurd z (by decide)) | exact (if_pos trivial).trans (law_x (b := 0) L F2 (fun z => absurd z (by decide)))
end CASESB
