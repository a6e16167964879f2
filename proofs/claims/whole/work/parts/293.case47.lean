/-! EXECUTING: the law's case -/
section CASE47
variable {B : Nat} {q : Nat → PC} {h h0 h1 : PH} {g g' g0 gs : GS} {K : Nat → GS} {c n i k L a : Nat} {sn : Option GS} {d1 d2 d3 : Int32} {t t1 : CS} {l : Nat → Int32} {e e1 : CS} {v5 : Int32}
/-- what counts of the row lies below 99 -/
theorem IC.gext (I : IC B h g K c sn d1 d2 d3 t l n) (E : ∀ k, k < 99 → g' k = g k) : IC B h g' K c sn d1 d2 d3 t l n := by
  obtain ⟨N, R, so, b, s2, f, u, ci, i1, i2, i3, i4, i5, i6, i7, i8, i9, i10, i11, i12, i13⟩ := I
  exact ⟨N, R, so, b, s2, f, u, ci, i1, i2.ext E, i3, i4, i5, i6, i7, i8, i9, i10, i11, i12, i13⟩
/-- the templates -/
def Tps (h : PH) : Prop := ∀ i, i < 12 → StrC h (22 + 2 * i) (tp i)
theorem exec_class (C : Cst q h) (hT : Tps (0, q)) (hP : Pri (0, q)) (hb : B + 600 < 1000000000) (I : IC B h g K c sn d1 d2 d3 t l n) (hL : t 1 0 = w L) (h60 : L ≤ 60) : ∃ h1 r t1, f_X9_execute h 86 = some (r, h1) ∧ fr cW h h1 ∧ t1 0 = t 0 ∧ t1 1 0 = w 0 ∧ (((pA (t 0) L 15 0).1 = false ∧ r = Sum.inl "java/lang/IllegalArgumentException" ∧ t1 2 0 = w (pA (t 0) L 15 0).2.1 ∧ IC B h1 g K c sn d1 d2 d3 t1 l n) ∨ ((pA (t 0) L 15 0).1 = true ∧ t1 2 = t 2 ∧ (((xe (pA (t 0) L 15 0).2.2 0 g).2.1 = 0 ∧ r = Sum.inr (w (pA (t 0) L 15 0).2.2.length) ∧ IC (B + 600) h1 (xe (pA (t 0) L 15 0).2.2 0 g).2.2 (Kn K c g) (min (c + 1) 8) sn d1 d2 d3 t1 l n) ∨ (¬ (xe (pA (t 0) L 15 0).2.2 0 g).2.1 = 0 ∧ r = Sum.inl "java/lang/UnsupportedOperationException" ∧ IC (B + 600) h1 g K c sn 9 (w (xe (pA (t 0) L 15 0).2.2 0 g).1) (if 0 < (xe (pA (t 0) L 15 0).2.2 0 g).2.1 then (xe (pA (t 0) L 15 0).2.2 0 g).2.1 else 10) t1 l n)))) := by
  obtain ⟨so, Ob⟩ := I.ob
  have TX := I.tx
  have St : ∀ i, i < 12 → ∀ h', fr (txW 121) h h' → StrC h' (22 + 2 * i) (tp i) := fun i hi h' F => by
    have C' := C.frm F (fun x z => by have := z.1; omega)
    exact (hT i hi).of_eq (C'.2 _ (by omega)) (C'.2 _ (by omega))
  obtain ⟨p1, t1, e1, T1, F1, y0, y1, y2, y3⟩ := parse_ok St h60 TX hL
  obtain ⟨p2, e2, T2, F2⟩ := T1.w1 0
  obtain ⟨I2, Fc⟩ := I.txU T2 (F1.trans F2)
  obtain ⟨I1, -⟩ := I.txU T1 F1
  obtain ⟨so1, Ob1⟩ := I1.ob
  obtain ⟨so2, Ob2⟩ := I2.ob
  have em : f_X8_empty p1 121 = some p2 := by
    have e2' : wr p1 121 10 1 (.int (0 : Int32)) = some p2 := e2
    unfold f_X8_empty
    rw [e2', Option.bind_some]
  cases hp : (pA (t 0) L 15 0).1 with
  | false =>
    rw [hp] at e1
    refine ⟨p2, _, setR t1 1 (fun _ => 0), ?_, Fc, y0, rfl, Or.inl ⟨rfl, rfl, y3 hp, I2⟩⟩
    unfold f_X9_execute
    simp only [Ob.r5, TX.gd, e1, Ob1.r5, T1.gd, em, if_neg (show ¬ (false = true) by decide), Option.bind_some]
  | true =>
    rw [hp] at e1
    obtain ⟨z2, z3⟩ := y2 hp
    obtain ⟨cm1, cm2⟩ := pA_cmds (s := t 0) 15 0 (Nat.zero_le L) hp
    generalize hl : (pA (t 0) L 15 0).2.2 = cs at *
    have l13 : cs.length ≤ 12 := by omega
    have Cm2 : Cm (setR t1 1 fun _ => 0) cs := z3
    obtain ⟨p3, e3, I3, S3, F3⟩ := I2.aside
    obtain ⟨p4, X⟩ := exec_loop (pre := []) (r := cs) (g0 := g) hP Cm2 (fun p hp => (cm2 p hp).1) cs 0 FV B g p3 ⟨[], rfl, rfl⟩ (fun p hp => (cm2 p hp).1) (by show cs.length ≤ 13; omega) (by rw [FV_eq]; omega) (by omega) ((C.cW Fc).frm F3 (fun x z => by have := z.1; omega)) I3 S3
    have F3c : fr cW p2 p3 := F3.mono fun x z => Or.inl (by have z1 := z.1; have z2 := z.2; omega)
    rcases X with ⟨v, e4, I4, S4, F4⟩ | ⟨v, e4, I4, F4⟩
    · obtain ⟨p5, e5, I5, F5⟩ := I4.rem S4
      obtain ⟨so4, Ob4⟩ := I4.ob
      obtain ⟨so5, Ob5⟩ := I5.ob
      obtain ⟨N4, R4, Hi4⟩ := I4.hi
      have TX5 := I5.tx
      have e4' : f_X9_execute_L42 FV p3 86 (0 : Int32) = some (Sum.inr p4) := e4
      have i3 : rdI p5 121 10 3 = some (w cs.length) := by rw [TX5.i3]; exact congrArg some Cm2.1
      refine ⟨p5, _, setR t1 1 (fun _ => 0), ?_, ((Fc.trans F3c).trans F4).trans F5, y0, rfl, Or.inr ⟨rfl, z2, Or.inl ⟨v, rfl, I5.le (by omega) hb⟩⟩⟩
      unfold f_X9_execute
      simp only [Ob.r5, TX.gd, e1, Ob1.r5, T1.gd, em, if_true, Ob2.r1, Ob2.r0, e3, e4', Option.bind_some]
      obtain ⟨s98, S98⟩ := S3.st
      have g98 : gd p2 98 9 = some () := by
        obtain ⟨N, R, so, b, s2, f, u, ci, i1, i2, i3, -⟩ := I2
        exact i3.gd
      simp only [g98, e3, e4', Option.bind_some, Sum.elim_inr, Ob4.r2, Ob4.r1, hiG Hi4, e5, Ob5.r5, i3]
    · have e4' : f_X9_execute_L42 FV p3 86 (0 : Int32) = some (Sum.inl (Sum.inl "java/lang/UnsupportedOperationException", p4)) := e4
      refine ⟨p4, _, setR t1 1 (fun _ => 0), ?_, (Fc.trans F3c).trans F4, y0, rfl, Or.inr ⟨rfl, z2, Or.inr ⟨v, rfl, I4.le (by omega) hb⟩⟩⟩
      have g98 : gd p2 98 9 = some () := by
        obtain ⟨N, R, so, b, s2, f, u, ci, i1, i2, i3, -⟩ := I2
        exact i3.gd
      unfold f_X9_execute
      simp only [Ob.r5, TX.gd, e1, Ob1.r5, T1.gd, em, if_true, Ob2.r1, Ob2.r0, g98, e3, e4', Option.bind_some, Sum.elim_inl]
theorem mwd_of (C : Cst q h) (hW : MWd (0, q)) : MWd h := by
  obtain ⟨a1, a2, a3, a4, a5, a6, a7, a8, a9, a10, a11⟩ := hW
  have e : ∀ {n : Nat} {cs : List Nat}, n + 1 < 86 → StrC (0, q) n cs → StrC h n cs := fun hn S => S.of_eq (C.2 _ (by omega)) (C.2 _ (by omega))
  exact ⟨e (by decide) a1, e (by decide) a2, e (by decide) a3, e (by decide) a4, e (by decide) a5, e (by decide) a6, e (by decide) a7, e (by decide) a8, e (by decide) a9, e (by decide) a10, e (by decide) a11⟩
theorem case_47 (V : Inv B q h) (hT : Tps (0, q)) (hW : MWd (0, q)) (hP : Pri (0, q)) (hb : B + 600 < 1000000000) : ∃ h1, f_L_case47 h 0 86 131 139 140 v5 = some h1 ∧ Inv (B + 600) q h1 := by
  obtain ⟨C, OL, OD, g, K, c, sn, d1, d2, d3, t, l, n, e, I, M, T⟩ := V
  have T9 := T
  obtain ⟨rfl, a2, a3, a4, a5, ⟨L, h60, t1L, t13, tE⟩, a7, a8, a9⟩ := T9
  have O := I.ok
  obtain ⟨so, Ob⟩ := I.ob
  have ext : pA (t 0) L 15 0 = pA (e 12) L 15 0 := pA_ext tE 15 0 (Nat.zero_le _)
  obtain ⟨hc, r, tt, E, Fc, q0, q1, X⟩ := exec_class C hT hP hb I t1L h60
  rw [ext] at X
  have Swd : ∀ h1, Cst q h1 → ∀ h2, fr (mW 131) h1 h2 → MWd h2 := fun h1 C1 h2 F => mwd_of (C1.mW F) hW
  have Mc := moc_cW M Fc
  have OLc := OL.frm Fc (no_cW (x := 139) (by omega) (by omega))
  have ODc := OD.frm Fc (no_cW (x := 140) (by omega) (by omega))
  rcases X with ⟨p1, rfl, p2, Ic⟩ | ⟨p1, p2, X⟩
  · have L1 := LW.thr (q := q) (code := 1) (by decide) (C.cW Fc) OLc ODc Ic Mc 0
    obtain ⟨h2, e2, E2, M2, F2, m8, m13, m14, mj⟩ := mexec_bad (Swd _ (C.cW Fc)) Mc t13 h60 p1
    have tc : f_X10_thrown h2 131 = some 1 := (thrown_of M2).trans (congrArg some m8)
    have EW : f_L_execute h 86 139 = some (1, hc) := by
      unfold f_L_execute
      simp only [Ob.gd, E, Option.bind_some, Sum.elim_inl]
      simp
    refine ⟨h2, ?_, (Inv.of L1 F2 M2 ?_).le (by omega) hb⟩
    · unfold f_L_case47
      simp only [EW, Option.bind_some, Mc.gd, E2, M2.gd, tc]
      first | exact law_if L1 F2 (fun z => absurd z (by decide)) | exact (if_pos trivial).trans (law_x L1 F2 (fun z => absurd z (by decide)))
    · have f : ∀ j, j ≠ 7 → j ≠ 8 → j ≠ 13 → j ≠ 14 → j ≠ 17 → j ≠ 18 → j ≠ 19 → e2 j = e j := mj
      unfold Tie Kp
      rw [f 0 (by decide) (by decide) (by decide) (by decide) (by decide) (by decide) (by decide), f 1 (by decide) (by decide) (by decide) (by decide) (by decide) (by decide) (by decide), f 2 (by decide) (by decide) (by decide) (by decide) (by decide) (by decide) (by decide), f 4 (by decide) (by decide) (by decide) (by decide) (by decide) (by decide) (by decide), f 5 (by decide) (by decide) (by decide) (by decide) (by decide) (by decide) (by decide), f 6 (by decide) (by decide) (by decide) (by decide) (by decide) (by decide) (by decide), f 9 (by decide) (by decide) (by decide) (by decide) (by decide) (by decide) (by decide), f 10 (by decide) (by decide) (by decide) (by decide) (by decide) (by decide) (by decide), f 11 (by decide) (by decide) (by decide) (by decide) (by decide) (by decide) (by decide), f 12 (by decide) (by decide) (by decide) (by decide) (by decide) (by decide) (by decide), f 15 (by decide) (by decide) (by decide) (by decide) (by decide) (by decide) (by decide), f 16 (by decide) (by decide) (by decide) (by decide) (by decide) (by decide) (by decide)]
      exact ⟨rfl, a2, a3, a4, a5, ⟨0, by decide, q1, m13, fun i hi => absurd hi (Nat.not_lt_zero i)⟩, p2.trans m14.symm, a8, a9⟩
  · rcases X with ⟨v, rfl, Ic⟩ | ⟨v, rfl, Ic⟩
    · obtain ⟨h1, W, L1⟩ := LW.val (C.cW Fc) OLc ODc Ic Mc (w (pA (e 12) L 15 0).2.2.length).toInt64
      have M1 := L1.2.2.2.2.2
      obtain ⟨h2, e2, r2, E2, M2, F2, m6, m13, mj, Y⟩ := mexec_good (Swd _ L1.1) M1 O hb a2 a3 t13 h60 p1
      have EW : f_L_execute h 86 139 = some (0, h1) := by
        unfold f_L_execute
        simp only [Ob.gd, E, Option.bind_some, Sum.elim_inr, W]
      rcases Y with ⟨y1, rfl, y3, y4, y5, y6, y7, y8⟩ | ⟨y1, -⟩
      · have tc : f_X10_thrown h2 131 = some 0 := (thrown_of M2).trans (congrArg some y3)
        refine ⟨h2, ?_, Inv.of L1 F2 M2 ?_⟩
        · unfold f_L_case47
          simp only [EW, Option.bind_some, M1.gd, E2, M2.gd, tc]
          first | exact law_if L1 F2 (fun _ => rfl) | exact (if_pos trivial).trans (law_x L1 F2 (fun _ => rfl))
        · unfold Tie
          rw [mj 2 (by omega), mj 4 (by omega), mj 12 (by omega), mj 14 (by omega), mj 15 (by omega), mj 16 (by omega), y6, y7, y8, p2]
          exact ⟨y4, y5, m6, a4, a5, ⟨0, by decide, q1, m13, fun i hi => absurd hi (Nat.not_lt_zero i)⟩, a7, a8, a9⟩
      · exact absurd v y1
    · have L0 := LW.thr (q := q) (code := 2) (by decide) (C.cW Fc) OLc ODc Ic Mc 0
      obtain ⟨h2, e2, r2, E2, M2, F2, m6, m13, mj, Y⟩ := mexec_good (Swd _ (C.cW Fc)) Mc O hb a2 a3 t13 h60 p1
      have EW : f_L_execute h 86 139 = some (2, hc) := by
        unfold f_L_execute
        simp only [Ob.gd, E, Option.bind_some, Sum.elim_inl]
        simp
      rcases Y with ⟨y1, -⟩ | ⟨y1, y3, y4, y5, y6, y7, y8, y9⟩
      · exact absurd y1 v
      · have tc : f_X10_thrown h2 131 = some 2 := (thrown_of M2).trans (congrArg some y3)
        have L1 : LW (B + 600) q hc e 2 0 (e2 0) K c sn 9 (w (xe (pA (e 12) L 15 0).2.2 0 (e 0)).1) (if 0 < (xe (pA (e 12) L 15 0).2.2 0 (e 0)).2.1 then (xe (pA (e 12) L 15 0).2.2 0 (e 0)).2.1 else 10) tt l n := ⟨L0.1, L0.2.1, L0.2.2.1, L0.2.2.2.1, Ic.gext y4, L0.2.2.2.2.2⟩
        refine ⟨h2, ?_, Inv.of L1 F2 M2 ?_⟩
        · unfold f_L_case47
          simp only [EW, Option.bind_some, Mc.gd, E2, M2.gd, tc]
          first | exact law_if L1 F2 (fun z => absurd z (by decide)) | exact (if_pos trivial).trans (law_x L1 F2 (fun z => absurd z (by decide)))
        · unfold Tie Kp
          rw [mj 2 (by omega), mj 4 (by omega), mj 12 (by omega), mj 14 (by omega), mj 15 (by omega), mj 16 (by omega), y5, y6, p2]
          exact ⟨rfl, a2, m6, a4, ⟨y7, y8, y9, fun z => absurd z (by decide)⟩, ⟨0, by decide, q1, m13, fun i hi => absurd hi (Nat.not_lt_zero i)⟩, a7, a8, a9⟩
end CASE47
