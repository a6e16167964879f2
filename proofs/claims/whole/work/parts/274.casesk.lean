/-! the law's cases of the latest denial, of the fault position, and of feeding -/
section CASESK
variable {B : Nat} {q : Nat → PC} {h h1 h2 : PH} {i N c n k : Nat} {sc : Nat → Int32} {x y : Int32} {g : GS} {so : Option Nat} {e : CS}
theorem nar_c (x : Int32) : vp_nar .char (zi2c x) = zi2c x := by
  unfold vp_nar zi2c
  rw [pk_nc]
theorem case_51 (V : Inv B q h) : ∃ h1, f_L_case51 h 0 86 131 139 140 (w i) = some h1 ∧ Inv B q h1 := by
  obtain ⟨C, OL, OD, g, K, c, sn, d1, d2, d3, t, l, n, e, I, M, T⟩ := V
  have T9 := T
  obtain ⟨rfl, -⟩ := T9
  obtain ⟨so, Ob⟩ := I.ob
  have S := I.sg
  have O := I.ok
  have hn := O.n
  have hm := O.m
  obtain ⟨t9, t10, t11, t12⟩ := T.2.2.2.2.1
  have LT := I.lt
  by_cases c0 : d1 = 0
  · have nn : ¬ ¬ d1 = 0 := fun z => z c0
    have E : f_X9_denial h 86 = some (Sum.inl "java/util/NoSuchElementException") := by
      unfold f_X9_denial f_X9_needDenial
      simp only [Option.bind_some, Ob.gd, Ob.r6, LT.i0, if_neg nn, Sum.elim_inl]
    have L := LW.thr (q := q) (code := 1) (by decide) C OL OD I M 0
    obtain ⟨h2, e2, M2, F2⟩ := mfail1 M
    have tc : f_X10_thrown h2 131 = some 1 := thrown_of M2
    have EW : f_L_denial h 86 139 = some (1, h) := by
      unfold f_L_denial
      simp only [E, Option.bind_some, Ob.gd, Sum.elim_inl]
      simp
    refine ⟨h2, ?_, Inv.of L F2 M2 (T.eF 1)⟩
    unfold f_L_case51 f_X10_denial
    simp only [EW, Option.bind_some, M.gd, M.i9, t9, if_neg nn, e2, if_neg (show ¬ (true = false) by decide), M2.gd, tc]
    first | exact law_if (b := 0) L F2 (fun z => absurd z (by decide)) | exact (if_pos trivial).trans (law_x (b := 0) L F2 (fun z => absurd z (by decide)))
  · have E : f_X9_denial h 86 = some (Sum.inr (d1)) := by
      unfold f_X9_denial f_X9_needDenial
      simp only [Option.bind_some, Ob.gd, Ob.r6, LT.i0, if_pos c0, Sum.elim_inr]
    obtain ⟨h1, W, L⟩ := LW.val C OL OD I M (d1).toInt64
    have M1 := L.2.2.2.2.2
    obtain ⟨h2, e2, M2, F2⟩ := mfail0 M1
    have rv : rdI h2 131 12 9 = some d1 := M2.i9.trans (congrArg some t9)
    have tc : f_X10_thrown h2 131 = some 0 := thrown_of M2
    refine ⟨h2, ?_, Inv.of L F2 M2 (T.eF 0)⟩
    unfold f_L_case51 f_L_denial f_X10_denial
    simp only [E, Option.bind_some, Ob.gd, Sum.elim_inr, W, M1.gd, M1.i9, t9, if_pos c0, e2, if_true, rv, M2.gd, tc]
    first | exact law_if L F2 (fun _ => rfl) | exact (if_pos trivial).trans (law_x L F2 (fun _ => rfl))
theorem case_52 (V : Inv B q h) : ∃ h1, f_L_case52 h 0 86 131 139 140 (w i) = some h1 ∧ Inv B q h1 := by
  obtain ⟨C, OL, OD, g, K, c, sn, d1, d2, d3, t, l, n, e, I, M, T⟩ := V
  have T9 := T
  obtain ⟨rfl, -⟩ := T9
  obtain ⟨so, Ob⟩ := I.ob
  have S := I.sg
  have O := I.ok
  have hn := O.n
  have hm := O.m
  obtain ⟨t9, t10, t11, t12⟩ := T.2.2.2.2.1
  have LT := I.lt
  by_cases c0 : d1 = 0
  · have nn : ¬ ¬ d1 = 0 := fun z => z c0
    have E : f_X9_denialDetail h 86 = some (Sum.inl "java/util/NoSuchElementException") := by
      unfold f_X9_denialDetail f_X9_needDenial
      simp only [Option.bind_some, Ob.gd, Ob.r6, LT.i0, if_neg nn, Sum.elim_inl]
    have L := LW.thr (q := q) (code := 1) (by decide) C OL OD I M 0
    obtain ⟨h2, e2, M2, F2⟩ := mfail1 M
    have tc : f_X10_thrown h2 131 = some 1 := thrown_of M2
    have EW : f_L_denialDetail h 86 139 = some (1, h) := by
      unfold f_L_denialDetail
      simp only [E, Option.bind_some, Ob.gd, Sum.elim_inl]
      simp
    refine ⟨h2, ?_, Inv.of L F2 M2 (T.eF 1)⟩
    unfold f_L_case52 f_X10_denialDetail
    simp only [EW, Option.bind_some, M.gd, M.i9, t9, if_neg nn, e2, if_neg (show ¬ (true = false) by decide), M2.gd, tc]
    first | exact law_if (b := 0) L F2 (fun z => absurd z (by decide)) | exact (if_pos trivial).trans (law_x (b := 0) L F2 (fun z => absurd z (by decide)))
  · have E : f_X9_denialDetail h 86 = some (Sum.inr (d2)) := by
      unfold f_X9_denialDetail f_X9_needDenial
      simp only [Option.bind_some, Ob.gd, Ob.r6, LT.i0, if_pos c0, Sum.elim_inr, LT.i1]
    obtain ⟨h1, W, L⟩ := LW.val C OL OD I M (d2).toInt64
    have M1 := L.2.2.2.2.2
    obtain ⟨h2, e2, M2, F2⟩ := mfail0 M1
    have rv : rdI h2 131 12 10 = some d2 := M2.i10.trans (congrArg some t10)
    have tc : f_X10_thrown h2 131 = some 0 := thrown_of M2
    refine ⟨h2, ?_, Inv.of L F2 M2 (T.eF 0)⟩
    unfold f_L_case52 f_L_denialDetail f_X10_denialDetail
    simp only [E, Option.bind_some, Ob.gd, Sum.elim_inr, W, M1.gd, M1.i9, t9, if_pos c0, e2, if_true, rv, M2.gd, tc]
    first | exact law_if L F2 (fun _ => rfl) | exact (if_pos trivial).trans (law_x L F2 (fun _ => rfl))
theorem case_53 (V : Inv B q h) : ∃ h1, f_L_case53 h 0 86 131 139 140 (w i) = some h1 ∧ Inv B q h1 := by
  obtain ⟨C, OL, OD, g, K, c, sn, d1, d2, d3, t, l, n, e, I, M, T⟩ := V
  have T9 := T
  obtain ⟨rfl, -⟩ := T9
  obtain ⟨so, Ob⟩ := I.ob
  have S := I.sg
  have O := I.ok
  have hn := O.n
  have hm := O.m
  obtain ⟨t9, t10, t11, t12⟩ := T.2.2.2.2.1
  have LT := I.lt
  by_cases c0 : d1 = 0
  · have nn : ¬ ¬ d1 = 0 := fun z => z c0
    have n3 : ¬ ¬ d3 = 0 := fun z => z (t12 c0)
    have E : f_X9_denialCause h 86 = some (Sum.inl "java/util/NoSuchElementException") := by
      unfold f_X9_denialCause f_X9_needDenial
      simp only [Option.bind_some, Ob.gd, Ob.r6, LT.i0, if_neg nn, Sum.elim_inl]
    have L := LW.thr (q := q) (code := 1) (by decide) C OL OD I M 0
    obtain ⟨h2, e2, M2, F2⟩ := mfail1 M
    have tc : f_X10_thrown h2 131 = some 1 := thrown_of M2
    have EW : f_L_denialCause h 86 139 = some (1, h) := by
      unfold f_L_denialCause
      simp only [E, Option.bind_some, Ob.gd, Sum.elim_inl]
      simp
    refine ⟨h2, ?_, Inv.of L F2 M2 (T.eF 1)⟩
    unfold f_L_case53 f_X10_denialCause
    simp only [EW, Option.bind_some, M.gd, M.i11, t11, if_neg n3, e2, if_neg (show ¬ (true = false) by decide), M2.gd, tc]
    first | exact law_if (b := 0) L F2 (fun z => absurd z (by decide)) | exact (if_pos trivial).trans (law_x (b := 0) L F2 (fun z => absurd z (by decide)))
  · by_cases c3 : d3 = 0
    · have n3 : ¬ ¬ d3 = 0 := fun z => z c3
      have E : f_X9_denialCause h 86 = some (Sum.inl "java/util/NoSuchElementException") := by
        unfold f_X9_denialCause f_X9_needDenial
        simp only [Option.bind_some, Ob.gd, Ob.r6, LT.i0, if_pos c0, Sum.elim_inr, LT.i2, if_neg n3]
      have L := LW.thr (q := q) (code := 1) (by decide) C OL OD I M 0
      obtain ⟨h2, e2, M2, F2⟩ := mfail1 M
      have tc : f_X10_thrown h2 131 = some 1 := thrown_of M2
      have EW : f_L_denialCause h 86 139 = some (1, h) := by
        unfold f_L_denialCause
        simp only [E, Option.bind_some, Ob.gd, Sum.elim_inl]
        simp
      refine ⟨h2, ?_, Inv.of L F2 M2 (T.eF 1)⟩
      unfold f_L_case53 f_X10_denialCause
      simp only [EW, Option.bind_some, M.gd, M.i11, t11, if_neg n3, e2, if_neg (show ¬ (true = false) by decide), M2.gd, tc]
      first | exact law_if (b := 0) L F2 (fun z => absurd z (by decide)) | exact (if_pos trivial).trans (law_x (b := 0) L F2 (fun z => absurd z (by decide)))
    · have E : f_X9_denialCause h 86 = some (Sum.inr (d3)) := by
        unfold f_X9_denialCause f_X9_needDenial
        simp only [Option.bind_some, Ob.gd, Ob.r6, LT.i0, if_pos c0, Sum.elim_inr, LT.i2, if_pos c3]
      obtain ⟨h1, W, L⟩ := LW.val C OL OD I M (d3).toInt64
      have M1 := L.2.2.2.2.2
      obtain ⟨h2, e2, M2, F2⟩ := mfail0 M1
      have rv : rdI h2 131 12 11 = some d3 := M2.i11.trans (congrArg some t11)
      have tc : f_X10_thrown h2 131 = some 0 := thrown_of M2
      refine ⟨h2, ?_, Inv.of L F2 M2 (T.eF 0)⟩
      unfold f_L_case53 f_L_denialCause f_X10_denialCause
      simp only [E, Option.bind_some, Ob.gd, Sum.elim_inr, W, M1.gd, M1.i11, t11, if_pos c3, e2, if_true, rv, M2.gd, tc]
      first | exact law_if L F2 (fun _ => rfl) | exact (if_pos trivial).trans (law_x L F2 (fun _ => rfl))
theorem case_48 (V : Inv B q h) : ∃ h1, f_L_case48 h 0 86 131 139 140 (w i) = some h1 ∧ Inv B q h1 := by
  obtain ⟨C, OL, OD, g, K, c, sn, d1, d2, d3, t, l, n, e, I, M, T⟩ := V
  have T9 := T
  obtain ⟨rfl, -⟩ := T9
  obtain ⟨so, Ob⟩ := I.ob
  have S := I.sg
  have O := I.ok
  have hn := O.n
  have hm := O.m
  have t2 := T.2.2.2.2.2.2.1
  have TX := I.tx
  by_cases c0 : (0 : Int32) ≤ t 2 0
  · have E : f_X9_faultPosition h 86 = some (Sum.inr (t 2 0)) := by
      unfold f_X9_faultPosition
      simp only [Option.bind_some, Ob.r5, TX.i2, if_pos c0]
    obtain ⟨h1, W, L⟩ := LW.val C OL OD I M (t 2 0).toInt64
    have M1 := L.2.2.2.2.2
    obtain ⟨h2, e2, M2, F2⟩ := mfail0 M1
    have rv : rdI h2 131 12 14 = some (t 2 0) := M2.i14.trans (congrArg some t2.symm)
    have tc : f_X10_thrown h2 131 = some 0 := thrown_of M2
    refine ⟨h2, ?_, Inv.of L F2 M2 (T.eF 0)⟩
    unfold f_L_case48 f_L_faultPosition f_X10_faultPosition
    simp only [E, Option.bind_some, Ob.gd, Sum.elim_inr, W, M1.gd, M1.i14, ← t2, if_pos c0, e2, if_true, rv, M2.gd, tc]
    first | exact law_if L F2 (fun _ => rfl) | exact (if_pos trivial).trans (law_x L F2 (fun _ => rfl))
  · have E : f_X9_faultPosition h 86 = some (Sum.inl "java/util/NoSuchElementException") := by
      unfold f_X9_faultPosition
      simp only [Option.bind_some, Ob.r5, TX.i2, if_neg c0]
    have L := LW.thr (q := q) (code := 1) (by decide) C OL OD I M 0
    obtain ⟨h2, e2, M2, F2⟩ := mfail1 M
    have tc : f_X10_thrown h2 131 = some 1 := thrown_of M2
    have EW : f_L_faultPosition h 86 139 = some (1, h) := by
      unfold f_L_faultPosition
      simp only [E, Option.bind_some, Ob.gd, Sum.elim_inl]
      simp
    refine ⟨h2, ?_, Inv.of L F2 M2 (T.eF 1)⟩
    unfold f_L_case48 f_X10_faultPosition
    simp only [EW, Option.bind_some, M.gd, M.i14, ← t2, if_neg c0, e2, if_neg (show ¬ (true = false) by decide), M2.gd, tc]
    first | exact law_if (b := 0) L F2 (fun z => absurd z (by decide)) | exact (if_pos trivial).trans (law_x (b := 0) L F2 (fun z => absurd z (by decide)))
theorem case_46 (V : Inv B q h) (hq : q 0 = .inl (.int, N, .inl sc)) (hN : N ≤ 2048) (hi : i + 4 ≤ N) : ∃ h1, f_L_case46 h 0 86 131 139 140 (w i) = some h1 ∧ Inv B q h1 := by
  obtain ⟨C, OL, OD, g, K, c, sn, d1, d2, d3, t, l, n, e, I, M, T⟩ := V
  have T9 := T
  obtain ⟨rfl, -⟩ := T9
  obtain ⟨so, Ob⟩ := I.ob
  have S := I.sg
  have O := I.ok
  have hn := O.n
  have hm := O.m
  have a1 : ∀ {p : PH}, Cst q p → alI .int p 0 (w i + (1 : Int32)) = some (sc (i + 1)) := fun C1 => scr_at C1 hq hN (j := 1) (by omega)
  generalize sc (i + 1) = x at a1
  obtain ⟨tl, tl60, tt1, tt2, tt3⟩ := T.2.2.2.2.2.1
  have TX := I.tx
  have elt : (w tl < (60 : Int32)) = (tl < 60) := propext (w_lt (b := 60) (by omega) (by decide))
  have e60 : (w tl = (60 : Int32)) = (tl = 60) := propext (w_inj (b := 60) (by omega) (by decide))
  by_cases c0 : tl < 60
  · have c1 : ¬ tl = 60 := by omega
    obtain ⟨p1, s1, X1, F1⟩ := TX.s0 (k := tl) (zi2c x) (by omega)
    obtain ⟨hc, s2, X2, F2⟩ := X1.w1 (w (tl + 1))
    have i1 : rdI p1 121 10 1 = some (w tl) := X1.i1.trans (congrArg some tt1)
    have i2 : rdI hc 121 10 1 = some (w (tl + 1)) := X2.i1
    obtain ⟨Ic, Fc⟩ := I.txU X2 (F1.trans F2)
    obtain ⟨so2, Ob2⟩ := Ic.ob
    have E : f_X9_feed h 86 (zi2c x) = some (Sum.inr (w (tl + 1)), hc) := by
      unfold f_X9_feed f_X8_isFull f_X8_append f_X8_isFull
      simp only [Option.bind_some, Ob.r5, TX.gd, TX.i1, tt1, elt, if_pos c0, TX.r0, if_neg (show ¬ (false = true) by decide), s1, i1, w_succ, s2, Ob2.r5, i2]
      rfl
    obtain ⟨h1, W, L⟩ := LW.val (C.cW Fc) (OL.frm Fc (no_cW (by omega) (by omega))) (OD.frm Fc (no_cW (by omega) (by omega))) Ic (moc_cW M Fc) (w (tl + 1)).toInt64
    have M1 := L.2.2.2.2.2
    obtain ⟨p2, e2, M2, F3⟩ := mfail0 M1
    have j1 : rdI p2 131 12 13 = some (w tl) := M2.i13.trans (congrArg some tt2)
    obtain ⟨p3, e3, M3, F4⟩ := M2.s12 (k := tl) (zi2c x) (by omega)
    have j2 : rdI p3 131 12 13 = some (w tl) := M3.i13.trans (congrArg some tt2)
    obtain ⟨h2, e4, M4, F5⟩ := M3.w13 (w (tl + 1))
    have j3 : rdI h2 131 12 13 = some (w (tl + 1)) := M4.i13
    have tc : f_X10_thrown h2 131 = some 0 := thrown_of M4
    have EM : f_X10_feed h1 131 (zi2c x) = some (w (tl + 1), h2) := by
      unfold f_X10_feed f_X10_feed_J15
      simp only [Option.bind_some, M1.i13, tt2, e60, M1.gd]
      rw [if_pos c1]
      simp only [e2, Option.bind_some, if_true, M2.r12, j1, e3, j2, w_succ, e4, j3]
    have EW : f_L_feed h 86 (zi2c x) 139 = some (0, h1) := by
      unfold f_L_feed
      simp only [Option.bind_some, Ob.gd, E, Sum.elim_inr, W]
    have FF : fr (mW 131) h1 h2 := (F3.trans F4).trans F5
    refine ⟨h2, ?_, Inv.of L FF M4 ?_⟩
    · unfold f_L_case46
      simp only [a1 C, EW, Option.bind_some, a1 L.1, M1.gd, EM, M4.gd, tc]
      first | exact law_if L FF (fun _ => rfl) | exact (if_pos trivial).trans (law_x L FF (fun _ => rfl))
    · obtain ⟨a1', a2', a3', a4', a5', a6', a7', a8', a9'⟩ := T
      refine ⟨rfl, a2', a3', a4', a5', ⟨tl + 1, by omega, rfl, rfl, fun j hj => ?_⟩, a7', a8', a9'⟩
      show upd (t 0) tl (vp_nar .char (zi2c x)) j = upd (e 12) tl (zi2c x) j
      rw [nar_c]
      unfold upd
      by_cases z : j = tl
      · rw [if_pos z, if_pos z]
      · rw [if_neg z, if_neg z]
        exact tt3 j (by omega)
  · have c1 : tl = 60 := by omega
    have nn : ¬ ¬ tl = 60 := fun z => z c1
    have E : f_X9_feed h 86 (zi2c x) = some (Sum.inl "java/lang/IllegalStateException", h) := by
      unfold f_X9_feed f_X8_isFull
      simp only [Option.bind_some, Ob.r5, TX.gd, TX.i1, tt1, elt, if_neg c0, if_neg (show ¬ (true = false) by decide)]
    have L := LW.thr (q := q) (code := 1) (by decide) C OL OD I M 0
    obtain ⟨h2, e2, M2, F2⟩ := mfail1 M
    have tc : f_X10_thrown h2 131 = some 1 := thrown_of M2
    have EW : f_L_feed h 86 (zi2c x) 139 = some (1, h) := by
      unfold f_L_feed
      simp only [E, Option.bind_some, Ob.gd, Sum.elim_inl]
      simp
    refine ⟨h2, ?_, Inv.of L F2 M2 (T.eF 1)⟩
    unfold f_L_case46 f_X10_feed f_X10_feed_J15
    simp only [a1 C, EW, Option.bind_some, M.i13, tt2, e60]
    rw [if_neg nn]
    simp only [M.gd, e2, Option.bind_some, if_neg (show ¬ (true = false) by decide), M2.gd, tc]
    first | exact law_if (b := 0) L F2 (fun z => absurd z (by decide)) | exact (if_pos trivial).trans (law_x (b := 0) L F2 (fun z => absurd z (by decide)))
end CASESK
