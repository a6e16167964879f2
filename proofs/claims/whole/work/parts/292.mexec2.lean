/-! EXECUTING: the reference, whole -/
section MEXEC2
variable {B : Nat} {h h0 h1 : PH} {g g0 gs : GS} {K : Nat → GS} {c n i k L a : Nat} {x y z : Int32} {e e1 : CS}
theorem mexec_bad (Sw : ∀ h1, fr (mW 131) h h1 → MWd h1) (M : MoC h 131 e) (hL : e 13 0 = w L) (h60 : L ≤ 60) (hp : (pA (e 12) L 15 0).1 = false) : ∃ h1 e1, f_X10_execute h 131 = some (0, h1) ∧ MoC h1 131 e1 ∧ fr (mW 131) h h1 ∧ e1 8 0 = 1 ∧ e1 13 0 = w 0 ∧ e1 14 0 = w (pA (e 12) L 15 0).2.1 ∧ ∀ j, j ≠ 7 → j ≠ 8 → j ≠ 13 → j ≠ 14 → j ≠ 17 → j ≠ 18 → j ≠ 19 → e1 j = e j := by
  obtain ⟨p1, m1, u1, d1, R, -⟩ := isText_ok Sw M hL h60
  rw [hp] at d1
  obtain ⟨e2, M2, q2, e17, e19, e18, F2⟩ := R
  have i17 : rdI p1 131 12 17 = some (w (pA (e 12) L 15 0).2.1) := by rw [M2.i17, e17]
  obtain ⟨p2, d3, M3, F3⟩ := M2.w14 (w (pA (e 12) L 15 0).2.1)
  obtain ⟨p3, d4, M4, F4⟩ := M3.w13 0
  obtain ⟨p4, d5, M5, F5⟩ := mfail1 M4
  refine ⟨p4, _, ?_, M5, ((F2.trans F3).trans F4).trans F5, rfl, rfl, rfl, fun j j7 j8 j13 j14 j17 j18 j19 => ?_⟩
  · unfold f_X10_execute
    simp only [M.gd, d1, if_neg (show ¬ (false = true) by decide), i17, d3, Option.bind_some]
    unfold f_X10_execute_J17
    rw [d4, Option.bind_some, if_pos (by decide)]
    unfold f_X10_execute_J32
    simp only [M4.gd, d5, if_neg (show ¬ (true = false) by decide), Option.bind_some]
  · rw [eF_row _ _ j7 j8]
    unfold setR
    rw [if_neg j13, if_neg j14]
    exact q2 j j17 j18 j19
theorem Kn_ext {g g' : GS} (E : ∀ k, k < 99 → g' k = g k) {i k : Nat} (hk : k < 99) : Kn K c g' i k = Kn K c g i k := by
  unfold Kn
  by_cases c8 : c = 8
  · rw [if_pos c8, if_pos c8]
    by_cases i7 : i = 7
    · rw [if_pos i7, if_pos i7]; exact E k hk
    · rw [if_neg i7, if_neg i7]
  · rw [if_neg c8, if_neg c8]
    by_cases ic : i = c
    · rw [if_pos ic, if_pos ic]; exact E k hk
    · rw [if_neg ic, if_neg ic]
theorem mexec_good (Sw : ∀ h1, fr (mW 131) h h1 → MWd h1) (M : MoC h 131 e) (O : Ok B (e 0)) (hb : B + 600 < 1000000000) (A : Kp e K c) (h6 : e 6 0 = 0) (hL : e 13 0 = w L) (h60 : L ≤ 60) (hp : (pA (e 12) L 15 0).1 = true) : ∃ h1 e1 r, f_X10_execute h 131 = some (r, h1) ∧ MoC h1 131 e1 ∧ fr (mW 131) h h1 ∧ e1 6 0 = 0 ∧ e1 13 0 = w 0 ∧ (∀ j, j = 2 ∨ j = 4 ∨ j = 12 ∨ j = 14 ∨ j = 15 ∨ j = 16 → e1 j = e j) ∧ (((xe (pA (e 12) L 15 0).2.2 0 (e 0)).2.1 = 0 ∧ r = w (pA (e 12) L 15 0).2.2.length ∧ e1 8 0 = 0 ∧ e1 0 = (xe (pA (e 12) L 15 0).2.2 0 (e 0)).2.2 ∧ Kp e1 (Kn K c (e 0)) (min (c + 1) 8) ∧ e1 9 = e 9 ∧ e1 10 = e 10 ∧ e1 11 = e 11) ∨ (¬ (xe (pA (e 12) L 15 0).2.2 0 (e 0)).2.1 = 0 ∧ e1 8 0 = 2 ∧ (∀ k, k < 99 → e1 0 k = e 0 k) ∧ e1 1 = e 1 ∧ e1 5 = e 5 ∧ e1 9 0 = 9 ∧ e1 10 0 = w (xe (pA (e 12) L 15 0).2.2 0 (e 0)).1 ∧ e1 11 0 = if 0 < (xe (pA (e 12) L 15 0).2.2 0 (e 0)).2.1 then (xe (pA (e 12) L 15 0).2.2 0 (e 0)).2.1 else 10)) := by
  obtain ⟨p1, m1, u1, d1, R, X⟩ := isText_ok Sw M hL h60
  obtain ⟨x1, x2, x3⟩ := X hp
  rw [hp] at d1
  obtain ⟨e2, M2, q2, e17, e19, e18, F2⟩ := R
  obtain ⟨-, hk⟩ := pA_cmds (s := e 12) 15 0 (Nat.zero_le L) hp
  generalize (pA (e 12) L 15 0).2.2 = l at *
  subst x1
  obtain ⟨p2, d3, M3, F3⟩ := M2.w13 0
  obtain ⟨p3, d4, M4, F4⟩ := mfail0 M3
  obtain ⟨f3, d5, K5, -⟩ := copies_ok (a0 := 0) (on := 0) M4.c0 M4.c3 (by omega) (by decide) (by omega) (by omega) (by decide) (by decide)
  have d5' : f_X10_copies p3 (131 + 1) (0 : Int32) (131 + 4) (0 : Int32) = some (p3.1, z_up p3.2 (131 + 4) (.inl (.int, 99, .inl f3))) := d5
  have M5 := M4.row3 f3
  have F5 : fr (mW 131) p3 (p3.1, z_up p3.2 (131 + 4) (.inl (.int, 99, .inl f3))) := fr.up ⟨by omega, by omega⟩
  have r0 : e2 0 = e 0 := q2 0 (by decide) (by decide) (by decide)
  have hf3 : ∀ k, k < 99 → f3 k = e 0 k := fun k hk => by
    have := K5 k hk
    rw [Nat.zero_add] at this
    rw [this]
    exact congrFun r0 k
  generalize (p3.1, z_up p3.2 (131 + 4) (.inl (.int, 99, .inl f3))) = p4 at *
  obtain ⟨p5, d6, M6, F6⟩ := M5.w6 1
  have l13 : l.length ≤ 13 := x3
  obtain ⟨p6, e7, got, d7, M7, F7, R7, y0, y1, y5, Y⟩ := mexec_loop x2 l13 hk l 0 FV B p5 _ 0 ⟨[], rfl, rfl⟩ (by rw [FV_eq]; omega) (by omega) M6 (show Ok B (e2 0) by rw [r0]; exact O) rfl rfl e18 e19
  have y0 : e7 0 = (xe l 0 (e 0)).2.2 := by rw [← r0]; exact y0
  have d7 : f_X10_execute_L62 FV p5 131 (w 0) 0 = some (w (xe l 0 (e 0)).1, got, p6) := by rw [← r0]; exact d7
  have Y : ((xe l 0 (e 0)).2.1 = 0 ∧ e7 8 0 = 0 ∧ e7 9 = e2 9 ∧ e7 10 = e2 10 ∧ e7 11 = e2 11) ∨ (¬ (xe l 0 (e 0)).2.1 = 0 ∧ ¬ e7 8 0 ≤ 0 ∧ ((0 < (xe l 0 (e 0)).2.1 ∧ e7 7 0 = 1 ∧ e7 9 0 = (xe l 0 (e 0)).2.1) ∨ (¬ 0 < (xe l 0 (e 0)).2.1 ∧ e7 7 0 = 0))) := by rw [← r0]; exact Y
  have y1 : e7 1 = e2 1 := y1
  have y5 : e7 5 = e2 5 := y5
  have d7' : f_X10_execute_L62 FV p5 131 (0 : Int32) (0 : Int32) = some (w (xe l 0 (e 0)).1, got, p6) := d7
  obtain ⟨p7, d8, M8, F8⟩ := M7.w6 0
  have i8 : rdI p7 131 12 8 = some (e7 8 0) := M8.i8
  have head : f_X10_execute h 131 = f_X10_execute_J98 p6 131 (w (xe l 0 (e 0)).1) got := by
    unfold f_X10_execute
    simp only [M.gd, d1, if_true, Option.bind_some]
    unfold f_X10_execute_J17
    rw [d3, Option.bind_some, if_neg (by decide)]
    unfold f_X10_execute_J32
    simp only [M3.gd, d4, if_true, M4.r0, M4.r3, d5', d6, d7', Option.bind_some]
  have FF : fr (mW 131) h p7 := ((((((F2.trans F3).trans F4).trans F5).trans F6).trans F7).trans F8)
  have r3 : e7 3 = f3 := R7 3 (by omega)
  have rj : ∀ j, j = 2 ∨ j = 4 ∨ j = 12 ∨ j = 14 ∨ j = 15 ∨ j = 16 → e7 j = e j := fun j hj => by
    rw [R7 j (by omega)]
    exact (if_neg (by omega)).trans ((if_neg (by omega)).trans ((eF_row _ _ (by omega) (by omega)).trans ((if_neg (by omega)).trans (q2 j (by omega) (by omega) (by omega)))))
  have r13 : e7 13 0 = w 0 := congrFun (R7 13 (by omega)) 0
  rw [head]
  unfold f_X10_execute_J98
  rcases Y with ⟨v, z8, z9, z10, z11⟩ | ⟨v, z8, Z⟩
  · have A7 : Kp (setR e7 6 fun _ => 0) K c := by
      refine ⟨A.1, ?_, fun i hi k hk => ?_⟩
      · show e7 5 0 = w c
        rw [y5, q2 5 (by decide) (by decide) (by decide)]
        exact A.2.1
      · show e7 1 (99 * i + k) = K i k
        rw [y1, q2 1 (by decide) (by decide) (by decide)]
        exact A.2.2 i hi k hk
    obtain ⟨p8, f1, d9, M9, K9, F9⟩ := mkeeps (r := 131 + 4) (g := f3) M8 rfl A7 (by decide) (fun h' e' M' he => by
      have := M'.c3
      rw [he 3 (Or.inr rfl)] at this
      rw [← r3]
      exact this)
    have i19 : rdI p8 131 12 19 = some (w l.length) := by
      rw [M9.i19]
      show some (e7 19 0) = _
      rw [R7 19 (by omega)]
      exact congrArg some e19
    refine ⟨p8, _, w l.length, ?_, M9, FF.trans F9, rfl, r13, fun j hj => by rcases hj with rfl | rfl | rfl | rfl | rfl | rfl <;> exact rj _ (by decide), Or.inl ⟨v, rfl, rfl, y0, ⟨Nat.min_le_right _ _, rfl, fun i hi k hk => ?_⟩, ?_, ?_, ?_⟩⟩
    · simp only [d8, i8, z8, if_pos (Int32.le_refl (0 : Int32)), M8.r3, M8.gd, d9, i19, Option.bind_some]
    · rw [← Kn_ext hf3 hk]
      exact K9 i hi k hk
    · exact z9.trans (q2 9 (by decide) (by decide) (by decide))
    · exact z10.trans (q2 10 (by decide) (by decide) (by decide))
    · exact z11.trans (q2 11 (by decide) (by decide) (by decide))
  · obtain ⟨f4, d9, K9, -⟩ := copies_ok (a0 := 0) (on := 0) M8.c3 M8.c0 (by omega) (by decide) (by omega) (by omega) (by decide) (by decide)
    have d9' : f_X10_copies p7 (131 + 4) (0 : Int32) (131 + 1) (0 : Int32) = some (p7.1, z_up p7.2 (131 + 1) (.inl (.int, 99, .inl f4))) := d9
    have M9 := M8.row0 f4
    have F9 : fr (mW 131) p7 (p7.1, z_up p7.2 (131 + 1) (.inl (.int, 99, .inl f4))) := fr.up ⟨by omega, by omega⟩
    have hf4 : ∀ k, k < 99 → f4 k = e 0 k := fun k hk => by
      have := K9 k hk
      rw [Nat.zero_add] at this
      rw [this]
      show e7 3 k = _
      rw [r3]
      exact hf3 k hk
    generalize (p7.1, z_up p7.2 (131 + 1) (.inl (.int, 99, .inl f4))) = p8 at *
    have j7 : rdI p8 131 12 7 = some (e7 7 0) := M9.i7
    have j9 : rdI p8 131 12 9 = some (e7 9 0) := M9.i9
    obtain ⟨p9, d10, M10, F10⟩ := mdenies M9 2 9 (w (xe l 0 (e 0)).1)
    have fin : ∀ (cz : Int32), (cz = if 0 < (xe l 0 (e 0)).2.1 then (xe l 0 (e 0)).2.1 else 10) → (∃ p10, wr p9 131 12 11 (.int cz) = some p10 ∧ f_X10_deniesText p8 131 (w (xe l 0 (e 0)).1) = some (0, p10)) → ∃ h1 e1 r, ((wr p6 131 12 6 (.int (0 : Int32))).bind fun h1 => (rdI h1 131 12 8).bind fun x3 => if x3 ≤ 0 then (rdR h1 131 12 3).bind fun x6 => (gd h1 131 12).bind fun _ => (f_X10_keeps h1 131 x6).bind fun p9 => (rdI p9 131 12 19).bind fun x11 => some (x11, p9) else (rdR h1 131 12 3).bind fun x13 => (rdR h1 131 12 0).bind fun x15 => (f_X10_copies h1 x13 (0 : Int32) x15 (0 : Int32)).bind fun p17 => (gd p17 131 12).bind fun _ => (f_X10_deniesText p17 131 (w (xe l 0 (e 0)).1)).bind fun p20 => if got ≤ 0 then some ((p20.1 + got), p20.2) else some ((p20.1 + (0 : Int32)), p20.2)) = some (r, h1) ∧ MoC h1 131 e1 ∧ fr (mW 131) h h1 ∧ e1 6 0 = 0 ∧ e1 13 0 = w 0 ∧ (∀ j, j = 2 ∨ j = 4 ∨ j = 12 ∨ j = 14 ∨ j = 15 ∨ j = 16 → e1 j = e j) ∧ (((xe l 0 (e 0)).2.1 = 0 ∧ r = w l.length ∧ e1 8 0 = 0 ∧ e1 0 = (xe l 0 (e 0)).2.2 ∧ Kp e1 (Kn K c (e 0)) (min (c + 1) 8) ∧ e1 9 = e 9 ∧ e1 10 = e 10 ∧ e1 11 = e 11) ∨ (¬ (xe l 0 (e 0)).2.1 = 0 ∧ e1 8 0 = 2 ∧ (∀ k, k < 99 → e1 0 k = e 0 k) ∧ e1 1 = e 1 ∧ e1 5 = e 5 ∧ e1 9 0 = 9 ∧ e1 10 0 = w (xe l 0 (e 0)).1 ∧ e1 11 0 = if 0 < (xe l 0 (e 0)).2.1 then (xe l 0 (e 0)).2.1 else 10)) := by
      intro cz hcz hD
      obtain ⟨p10, w10, dT⟩ := hD
      obtain ⟨p11, w11, M11, F11⟩ := M10.w11 cz
      have e10 : p11 = p10 := Option.some.inj (w11.symm.trans w10)
      subst e10
      have hB : ∀ r, (∀ j, j = 2 ∨ j = 4 ∨ j = 12 ∨ j = 14 ∨ j = 15 ∨ j = 16 → (setR (eDn (setR (setR e7 6 fun _ => 0) 0 f4) 2 9 (w (xe l 0 (e 0)).1)) 11 fun _ => cz) j = e j) → ∃ h1 e1 r', (some (r, p11) : Option (Int32 × PH)) = some (r', h1) ∧ MoC h1 131 e1 ∧ fr (mW 131) h h1 ∧ e1 6 0 = 0 ∧ e1 13 0 = w 0 ∧ (∀ j, j = 2 ∨ j = 4 ∨ j = 12 ∨ j = 14 ∨ j = 15 ∨ j = 16 → e1 j = e j) ∧ (((xe l 0 (e 0)).2.1 = 0 ∧ r' = w l.length ∧ e1 8 0 = 0 ∧ e1 0 = (xe l 0 (e 0)).2.2 ∧ Kp e1 (Kn K c (e 0)) (min (c + 1) 8) ∧ e1 9 = e 9 ∧ e1 10 = e 10 ∧ e1 11 = e 11) ∨ (¬ (xe l 0 (e 0)).2.1 = 0 ∧ e1 8 0 = 2 ∧ (∀ k, k < 99 → e1 0 k = e 0 k) ∧ e1 1 = e 1 ∧ e1 5 = e 5 ∧ e1 9 0 = 9 ∧ e1 10 0 = w (xe l 0 (e 0)).1 ∧ e1 11 0 = if 0 < (xe l 0 (e 0)).2.1 then (xe l 0 (e 0)).2.1 else 10)) := fun r hj => ⟨p11, _, r, rfl, M11, ((FF.trans F9).trans F10).trans F11, rfl, r13, hj, Or.inr ⟨v, rfl, hf4, y1.trans (q2 1 (by decide) (by decide) (by decide)), y5.trans (q2 5 (by decide) (by decide) (by decide)), rfl, rfl, hcz⟩⟩
      have hj : ∀ j, j = 2 ∨ j = 4 ∨ j = 12 ∨ j = 14 ∨ j = 15 ∨ j = 16 → (setR (eDn (setR (setR e7 6 fun _ => 0) 0 f4) 2 9 (w (xe l 0 (e 0)).1)) 11 fun _ => cz) j = e j := fun j hj => by
        rw [← rj j hj]
        unfold eDn setR
        rw [if_neg (by omega), if_neg (by omega), if_neg (by omega), if_neg (by omega), if_neg (by omega), if_neg (by omega), if_neg (by omega), if_neg (by omega)]
      simp only [d8, i8, if_neg z8, M8.r3, M8.r0, d9', M9.gd, dT, Option.bind_some]
      by_cases g0 : got ≤ 0
      · rw [if_pos g0]; exact hB _ hj
      · rw [if_neg g0]; exact hB _ hj
    rcases Z with ⟨v1, v2, v3⟩ | ⟨v1, v2⟩
    · refine fin (xe l 0 (e 0)).2.1 (if_pos v1).symm ?_
      obtain ⟨p10, w10, -, -⟩ := M10.w11 (xe l 0 (e 0)).2.1
      refine ⟨p10, w10, ?_⟩
      unfold f_X10_deniesText
      rw [j7, v2, Option.bind_some, if_neg (by decide)]
      simp only [j9, v3, M9.gd, d10, w10, Option.bind_some]
    · refine fin 10 (if_neg v1).symm ?_
      obtain ⟨p10, w10, -, -⟩ := M10.w11 10
      refine ⟨p10, w10, ?_⟩
      unfold f_X10_deniesText
      rw [j7, v2, Option.bind_some, if_pos rfl]
      simp only [M9.gd, d10, w10, Option.bind_some]
end MEXEC2
