/-! the law's two cases of mean and share -/
section CASESD
variable {B : Nat} {q : Nat → PC} {h h1 h2 : PH} {i N c n k : Nat} {x y : Int32} {g : GS} {K : Nat → GS} {sn : Option GS} {d1 d2 d3 : Int32} {t : CS} {l : Nat → Int32} {e : CS}
theorem LWD (C : Cst q h) (O : OutL h) (D : OutD h) (I : IC B h g K c sn d1 d2 d3 t l n) (M : MoC h 131 e) (y : UInt64) : ∃ h1, asD h 140 (0 : Int32) y = some h1 ∧ (∃ f, h1.2 140 = .inl (.double, 1, .inr (.inr (.inr (.inl f)))) ∧ f 0 = y) ∧ LW B q h1 e 1 0 g K c sn d1 d2 d3 t l n := by
  obtain ⟨h1, e1, o1, F1⟩ := D.put y
  refine ⟨h1, e1, o1, C.frm F1 (fun x z => by omega), O.frm F1 (by decide), ⟨Nat.lt_of_lt_of_le D.1 F1.1, o1.choose, o1.choose_spec.1⟩, fun z => absurd z (by decide), I.frm F1 (fun x z => by rcases z with z | z <;> omega), M.frm F1 (fun i hi => by omega)⟩
theorem outD_mW {y : UInt64} (hl : 140 < h1.1) (o1 : ∃ f, h1.2 140 = .inl (.double, 1, .inr (.inr (.inr (.inl f)))) ∧ f 0 = y) (F : fr (mW 131) h1 h2) : ∃ f, h2.2 140 = .inl (.double, 1, .inr (.inr (.inr (.inl f)))) ∧ f 0 = y := by
  obtain ⟨f, f1, f2⟩ := o1
  exact ⟨f, (F.2 140 hl (no_mW (by omega))).trans f1, f2⟩
theorem gs_zero (O : Ok B g) {c : Nat} : (gs g c = 0) = (gc g c = 0) := by
  have hn := O.n
  refine propext ⟨fun z => ?_, fun q => ?_⟩
  · rw [← pop_gs O, z]; rfl
  · refine Nat.eq_of_testBit_eq fun k => ?_
    rw [Nat.zero_testBit]
    cases d : (gs g c).testBit k
    · rfl
    · have kn : k < gN g := by
        unfold gs at d
        rw [mk_bit] at d
        simp at d
        exact d.1
      have := cn_pos (p := fun j => (gs g c).testBit j) (n := 12) (show k < 12 by omega) d
      rw [← pop_gs O] at q
      unfold pop at q
      omega
theorem dd_ok : ∀ b, b < 11 → b ≠ 0 → ∀ a, a < 301 → (FP.ddiv (FP.i2d (w a)) (FP.i2d (w b))) &&& 0x7fffffffffffffff ≤ 0x7ff0000000000000 ∧ Op.cmpValue (FP.dcmp (FP.ddiv (FP.i2d (w a)) (FP.i2d (w b))) (FP.ddiv (FP.i2d (w a)) (FP.i2d (w b)))) .l = 0 := by decide +kernel
theorem ff_ok : ∀ b, b < 11 → b ≠ 0 → ∀ a, a < 11 → (FP.fdiv (FP.i2f (w a)) (FP.i2f (w b))) &&& 0x7fffffff ≤ 0x7f800000 ∧ (FP.f2d (FP.fdiv (FP.i2f (w a)) (FP.i2f (w b)))) &&& 0x7fffffffffffffff ≤ 0x7ff0000000000000 ∧ Op.cmpValue (FP.dcmp (FP.f2d (FP.fdiv (FP.i2f (w a)) (FP.i2f (w b)))) (FP.f2d (FP.fdiv (FP.i2f (w a)) (FP.i2f (w b))))) .l = 0 := by decide +kernel
theorem case_44 (V : Inv B q h) : ∃ h1, f_L_case44 h 0 86 131 139 140 (w i) = some h1 ∧ Inv B q h1 := by
  obtain ⟨C, OL, OD, g, K, c, sn, d1, d2, d3, t, l, n, e, I, M, T⟩ := V
  have T9 := T
  obtain ⟨rfl, -⟩ := T9
  obtain ⟨so, Ob⟩ := I.ob
  have S := I.sg
  have O := I.ok
  have hn := O.n
  have hm := O.m
  have s0 := gs_lt O 0
  have zz := gs_zero (g := e 0) O (c := 0)
  have c10 := gc_le O 0
  have w3 := gW_le O (gs (e 0) 0)
  have ez : (w (gs (e 0) 0) = (0 : Int32)) = (gc (e 0) 0 = 0) := (propext (w_inj (b := 0) (by omega) (by decide))).trans zz
  have ec : (w (gc (e 0) 0) = (0 : Int32)) = (gc (e 0) 0 = 0) := propext (w_inj (b := 0) (by omega) (by decide))
  have cl := count_ok S (c := 102) (i := 0) (fun n hn => wc_0 hn)
  by_cases c0 : gc (e 0) 0 = 0
  · have nn : ¬ ¬ gc (e 0) 0 = 0 := fun z => z c0
    have E : f_X9_meanWeight h 86 = some (Sum.inl "java/lang/ArithmeticException") := by
      unfold f_X9_meanWeight
      simp only [Option.bind_some, Sum.elim_inr, Sum.elim_inl, Ob.gd, Ob.r0, S.gd, cl, ec]
      rw [if_neg nn]
    have L := LW.thr (q := q) (code := 1) (by decide) C OL OD I M 0
    have th : f_X10_those h 131 (0 : Int32) = some (w (gs (e 0) 0)) := mthose ⟨O, e, M, rfl⟩ (c := 0) (by decide)
    obtain ⟨h2, e2, M2, F2⟩ := mfail1 M
    have tc : f_X10_thrown h2 131 = some 1 := thrown_of M2
    have EW : f_L_meanWeight h 86 140 = some (1, h) := by
      unfold f_L_meanWeight
      simp only [E, Option.bind_some, Ob.gd, Sum.elim_inl]
      simp
    refine ⟨h2, ?_, Inv.of L F2 M2 (T.eF 1)⟩
    unfold f_L_case44 f_X10_meanWeight
    simp only [EW, Option.bind_some, M.gd, th, ez, if_neg nn, e2, if_neg (show ¬ (true = false) by decide), M2.gd, tc]
    rw [if_pos trivial, if_pos (by decide)]
  · obtain ⟨v1, v2⟩ := dd_ok (gc (e 0) 0) (by omega) c0 (gW (e 0) (gs (e 0) 0)) (by omega)
    generalize hX : FP.ddiv (FP.i2d (w (gW (e 0) (gs (e 0) 0)))) (FP.i2d (w (gc (e 0) 0))) = X at v1 v2
    have nX : n64 X = some X := if_pos v1
    have E : f_X9_meanWeight h 86 = some (Sum.inr X) := by
      unfold f_X9_meanWeight
      simp only [Option.bind_some, Ob.r0, S.gd, cl, ec]
      rw [if_pos c0]
      simp only [setOf_ok S (c := 102) (i := 0) (fun n hn => wc_0 hn), weightOfAll_ok S (show gs (e 0) 0 < 2147483648 by omega), Option.bind_some, hX, nX]
    obtain ⟨h1, W, o1, L⟩ := LWD C OL OD I M X
    have M1 := L.2.2.2.2.2
    obtain ⟨h2, e2, M2, F2⟩ := mfail0 M1
    have G2 := mg0 O M2
    have th : f_X10_those h1 131 (0 : Int32) = some (w (gs (e 0) 0)) := mthose ⟨O, e, M1, rfl⟩ (c := 0) (by decide)
    have mb : f_X10_bits (w (gs (e 0) 0)) = some (w (gc (e 0) 0)) := by rw [mbits (by omega), pop_gs O]
    have EM : f_X10_meanWeight h1 131 = some (X, h2) := by
      unfold f_X10_meanWeight
      simp only [Option.bind_some, M1.gd, th, ez]
      rw [if_pos c0]
      simp only [e2, Option.bind_some, if_true, M2.gd, mheavy G2 (show gs (e 0) 0 < 2147483648 by omega), mb, hX, nX]
    have tc : f_X10_thrown h2 131 = some 0 := thrown_of M2
    have oD := alD_of (outD_mW (by have := L.2.1.1; omega) o1 F2)
    have EW : f_L_meanWeight h 86 140 = some (0, h1) := by
      unfold f_L_meanWeight
      simp only [E, Option.bind_some, Ob.gd, Sum.elim_inr, W]
    refine ⟨h2, ?_, Inv.of L F2 M2 (T.eF 0)⟩
    unfold f_L_case44
    simp only [EW, Option.bind_some, M1.gd, EM, M2.gd, tc, oD]
    rw [if_pos trivial, if_neg (fun z => z trivial), if_pos v2]
theorem case_45 (V : Inv B q h) : ∃ h1, f_L_case45 h 0 86 131 139 140 (w i) = some h1 ∧ Inv B q h1 := by
  obtain ⟨C, OL, OD, g, K, c, sn, d1, d2, d3, t, l, n, e, I, M, T⟩ := V
  have T9 := T
  obtain ⟨rfl, -⟩ := T9
  obtain ⟨so, Ob⟩ := I.ob
  have S := I.sg
  have O := I.ok
  have hn := O.n
  have hm := O.m
  have s0 := gs_lt O 2
  have c10 := gc_le O 2
  have cl := count_ok S (c := 108) (i := 2) (fun n hn => wc_2 hn)
  have ec : (w (gN (e 0)) = (0 : Int32)) = (gN (e 0) = 0) := propext (w_inj (b := 0) (by omega) (by decide))
  by_cases c0 : gN (e 0) = 0
  · have nn : ¬ ¬ gN (e 0) = 0 := fun z => z c0
    have E : f_X9_landedShare h 86 = some (Sum.inl "java/lang/ArithmeticException") := by
      unfold f_X9_landedShare
      simp only [Option.bind_some, Sum.elim_inr, Sum.elim_inl, Ob.gd, Ob.r0, S.gd, S.i0, ec]
      rw [if_neg nn]
    have L := LW.thr (q := q) (code := 1) (by decide) C OL OD I M 0
    have n0 := Mg.n0 (B := B) (g := e 0) ⟨O, e, M, rfl⟩
    obtain ⟨h2, e2, M2, F2⟩ := mfail1 M
    have tc : f_X10_thrown h2 131 = some 1 := thrown_of M2
    have EW : f_L_landedShare h 86 140 = some (1, h) := by
      unfold f_L_landedShare
      simp only [E, Option.bind_some, Ob.gd, Sum.elim_inl]
      simp
    refine ⟨h2, ?_, Inv.of L F2 M2 (T.eF 1)⟩
    unfold f_L_case45 f_X10_landedShare f_X10_landedShare_J15
    simp only [EW, Option.bind_some, M.gd, M.r0, n0, ec, if_neg nn, e2, if_neg (show ¬ (true = false) by decide), M2.gd, tc]
    rw [if_pos trivial, if_pos (by decide)]
  · obtain ⟨v0, v1, v2⟩ := ff_ok (gN (e 0)) (by omega) c0 (gc (e 0) 2) (by omega)
    generalize hX : FP.fdiv (FP.i2f (w (gc (e 0) 2))) (FP.i2f (w (gN (e 0)))) = X at v0 v1 v2
    have nX : n32 X = some X := if_pos v0
    generalize hY : FP.f2d X = Y at v1 v2
    have nY : n64 Y = some Y := if_pos v1
    have E : f_X9_landedShare h 86 = some (Sum.inr X) := by
      unfold f_X9_landedShare
      simp only [Option.bind_some, Ob.r0, S.i0, ec]
      rw [if_pos c0]
      simp only [S.gd, cl, Option.bind_some, hX, nX]
    obtain ⟨h1, W, o1, L⟩ := LWD C OL OD I M Y
    have M1 := L.2.2.2.2.2
    have n0 := Mg.n0 (B := B) (g := e 0) ⟨O, e, M1, rfl⟩
    obtain ⟨h2, e2, M2, F2⟩ := mfail0 M1
    have G2 := mg0 O M2
    have th : f_X10_those h2 131 (2 : Int32) = some (w (gs (e 0) 2)) := mthose G2 (c := 2) (by decide)
    have mb : f_X10_bits (w (gs (e 0) 2)) = some (w (gc (e 0) 2)) := by rw [mbits (by omega), pop_gs O]
    have EM : f_X10_landedShare h1 131 = some (X, h2) := by
      unfold f_X10_landedShare f_X10_landedShare_J15
      simp only [Option.bind_some, M1.r0, n0, ec]
      rw [if_pos c0]
      simp only [M1.gd, e2, Option.bind_some, if_true, M2.gd, th, mb, M2.r0, G2.n0, hX, nX]
    have tc : f_X10_thrown h2 131 = some 0 := thrown_of M2
    have oD := alD_of (outD_mW (by have := L.2.1.1; omega) o1 F2)
    have EW : f_L_landedShare h 86 140 = some (0, h1) := by
      unfold f_L_landedShare
      simp only [E, Option.bind_some, Ob.gd, Sum.elim_inr, hY, nY, W]
    refine ⟨h2, ?_, Inv.of L F2 M2 (T.eF 0)⟩
    unfold f_L_case45
    simp only [EW, Option.bind_some, M1.gd, EM, M2.gd, tc, oD, hY, nY]
    rw [if_pos trivial, if_neg (fun z => z trivial), if_pos v2]
end CASESD
