/-! THE REFERENCE'S PARSER: a command, a text -/
section MHERE
variable {h h0 h1 : PH} {e0 : CS} {a c d i k n L m p : Nat} {vs : List Int32} {s u u0 : Nat → Int32} {l pre : List (Nat × List Int32)}
theorem sk_yes (R : RS h0 h e0 a m u) (hL : e0 13 0 = w L) (h60 : L ≤ 60) (ha : a ≤ L) (z : ch (e0 12) L a = w c) : ∃ h1, f_X10_skips h 131 (w c) = some (true, h1) ∧ RS h0 h1 e0 (a + 1) m u := by
  obtain ⟨h1, d1, R1⟩ := skips_ok R hL h60 (by omega) c
  rw [decide_eq_true z] at d1
  rw [if_pos z] at R1
  exact ⟨h1, d1, R1⟩
theorem sk_no (R : RS h0 h e0 a m u) (hL : e0 13 0 = w L) (h60 : L ≤ 60) (ha : a ≤ L) (z : ¬ ch (e0 12) L a = w c) : ∃ h1, f_X10_skips h 131 (w c) = some (false, h1) ∧ RS h0 h1 e0 a m u := by
  obtain ⟨h1, d1, R1⟩ := skips_ok R hL h60 (by omega) c
  rw [decide_eq_false z] at d1
  rw [if_neg z] at R1
  exact ⟨h1, d1, R1⟩
theorem withC_ok (Sw : ∀ h1, fr (mW 131) h0 h1 → MWd h1) (hL : e0 13 0 = w L) (h60 : L ≤ 60) (ha : a + 1 ≤ L) (hm : m ≤ 12) (z : ch (e0 12) L a = w 99) (R : RS h0 h e0 (a + 1) m u0) : PKq h0 e0 m u0 (f_X10_withC h 131 ((4 : Int32) * w m + (1 : Int32))) (pC (e0 12) L a) := by
  by_cases z1 : ch (e0 12) L (a + 1) = w 105
  · have al := (ch_lt z1 (by decide)).1
    obtain ⟨p1, d1, R1⟩ := sk_yes R hL h60 ha z1
    have d1' : f_X10_skips h 131 (105 : Int32) = some (true, p1) := d1
    rw [le_ci z z1]
    obtain ⟨h1, d2, X⟩ := (leaf_1 Sw hL h60 (show a + 1 + 1 ≤ L by omega) hm R1).kk
    refine ⟨h1, ?_, X⟩
    rw [← d2]
    unfold f_X10_withC
    simp only [rsG R, d1', if_neg (show ¬ (true = false) by decide), rsG R1, Option.bind_some]
    rfl
  · obtain ⟨p1, d1, R1⟩ := sk_no R hL h60 ha z1
    have d1' : f_X10_skips h 131 (105 : Int32) = some (false, p1) := d1
    by_cases z2 : ch (e0 12) L (a + 1) = w 117
    · have al := (ch_lt z2 (by decide)).1
      obtain ⟨p2, d2, R2⟩ := sk_yes R1 hL h60 ha z2
      have d2' : f_X10_skips p1 131 (117 : Int32) = some (true, p2) := d2
      by_cases z3 : ch (e0 12) L (a + 2) = w 116
      · have al2 := (ch_lt z3 (by decide)).1
        obtain ⟨p3, d3, R3⟩ := sk_yes R2 hL h60 (show a + 1 + 1 ≤ L by omega) z3
        have d3' : f_X10_skips p2 131 (116 : Int32) = some (true, p3) := d3
        rw [le_cut z z2 z3]
        obtain ⟨h1, d4, X⟩ := (leaf_5 Sw hL h60 (show a + 1 + 1 + 1 ≤ L by omega) hm R3).kk
        refine ⟨h1, ?_, X⟩
        rw [← d4]
        unfold f_X10_withC
        simp only [rsG R, d1', if_true, rsG R1, d2', rsG R2, d3', if_neg (show ¬ (true = false) by decide), rsG R3, Option.bind_some]
        rfl
      · obtain ⟨p3, d3, R3⟩ := sk_no R2 hL h60 (show a + 1 + 1 ≤ L by omega) z3
        have d3' : f_X10_skips p2 131 (116 : Int32) = some (false, p3) := d3
        rw [le_cur z z2 z3]
        obtain ⟨h1, d4, X⟩ := (leaf_3 Sw hL h60 (show a + 1 + 1 ≤ L by omega) hm R3).kk
        refine ⟨h1, ?_, X⟩
        rw [← d4]
        unfold f_X10_withC
        simp only [rsG R, d1', if_true, rsG R1, d2', rsG R2, d3', rsG R3, Option.bind_some]
        rfl
    · obtain ⟨p2, d2, R2⟩ := sk_no R1 hL h60 ha z2
      have d2' : f_X10_skips p1 131 (117 : Int32) = some (false, p2) := d2
      rw [le_c z z1 z2]
      refine ⟨p2, ?_, fun y => zff y, u0, R2⟩
      unfold f_X10_withC
      simp only [rsG R, d1', if_true, rsG R1, d2', if_neg (show ¬ (false = true) by decide), Option.bind_some]
theorem cmd_ok (Sw : ∀ h1, fr (mW 131) h0 h1 → MWd h1) (hL : e0 13 0 = w L) (h60 : L ≤ 60) (ha : a ≤ L) (hm : m ≤ 12) (R : RS h0 h e0 a m u0) : PKq h0 e0 m u0 (f_X10_commandHere h 131) (pC (e0 12) L a) := by
  by_cases z1 : ch (e0 12) L a = w 99
  · have al := (ch_lt z1 (by decide)).1
    obtain ⟨p1, d1, R1⟩ := sk_yes R hL h60 ha z1
    have d1' : f_X10_skips h 131 (99 : Int32) = some (true, p1) := d1
    obtain ⟨h1, d9, X⟩ := withC_ok Sw hL h60 (show a + 1 ≤ L by omega) hm z1 R1
    refine ⟨h1, ?_, X⟩
    unfold f_X10_commandHere
    simp only [rs_19 R, rsG R, d1', if_neg (show ¬ (true = false) by decide), rsG R1, d9, Option.bind_some]
  obtain ⟨p1, d1, R1⟩ := sk_no R hL h60 ha z1
  have d1' : f_X10_skips h 131 (99 : Int32) = some (false, p1) := d1
  by_cases z2 : ch (e0 12) L a = w 100
  · have al := (ch_lt z2 (by decide)).1
    obtain ⟨p2, d2, R2⟩ := sk_yes R1 hL h60 ha z2
    have d2' : f_X10_skips p1 131 (100 : Int32) = some (true, p2) := d2
    rw [le_d z2]
    obtain ⟨h1, d9, X⟩ := (leaf_2 Sw hL h60 (show a + 1 ≤ L by omega) hm R2).kk
    refine ⟨h1, ?_, X⟩
    rw [← d9]
    unfold f_X10_commandHere
    simp only [rs_19 R, rsG R, if_true, d1', rsG R1, d2', if_neg (show ¬ (true = false) by decide), rsG R2, Option.bind_some]
    rfl
  obtain ⟨p2, d2, R2⟩ := sk_no R1 hL h60 ha z2
  have d2' : f_X10_skips p1 131 (100 : Int32) = some (false, p2) := d2
  by_cases z3 : ch (e0 12) L a = w 104
  · have al := (ch_lt z3 (by decide)).1
    obtain ⟨p3, d3, R3⟩ := sk_yes R2 hL h60 ha z3
    have d3' : f_X10_skips p2 131 (104 : Int32) = some (true, p3) := d3
    rw [le_h z3]
    obtain ⟨h1, d9, X⟩ := (leaf_6 Sw hL h60 (show a + 1 ≤ L by omega) hm R3).kk
    refine ⟨h1, ?_, X⟩
    rw [← d9]
    unfold f_X10_commandHere
    simp only [rs_19 R, rsG R, if_true, d1', rsG R1, d2', rsG R2, d3', if_neg (show ¬ (true = false) by decide), rsG R3, Option.bind_some]
    rfl
  obtain ⟨p3, d3, R3⟩ := sk_no R2 hL h60 ha z3
  have d3' : f_X10_skips p2 131 (104 : Int32) = some (false, p3) := d3
  by_cases z4 : ch (e0 12) L a = w 113
  · have al := (ch_lt z4 (by decide)).1
    obtain ⟨p4, d4, R4⟩ := sk_yes R3 hL h60 ha z4
    have d4' : f_X10_skips p3 131 (113 : Int32) = some (true, p4) := d4
    rw [le_q z4]
    obtain ⟨h1, d9, X⟩ := (leaf_7 Sw hL h60 (show a + 1 ≤ L by omega) hm R4).kk
    refine ⟨h1, ?_, X⟩
    rw [← d9]
    unfold f_X10_commandHere
    simp only [rs_19 R, rsG R, if_true, d1', rsG R1, d2', rsG R2, d3', rsG R3, d4', if_neg (show ¬ (true = false) by decide), rsG R4, Option.bind_some]
    rfl
  obtain ⟨p4, d4, R4⟩ := sk_no R3 hL h60 ha z4
  have d4' : f_X10_skips p3 131 (113 : Int32) = some (false, p4) := d4
  by_cases z5 : ch (e0 12) L a = w 102
  · have al := (ch_lt z5 (by decide)).1
    obtain ⟨p5, d5, R5⟩ := sk_yes R4 hL h60 ha z5
    have d5' : f_X10_skips p4 131 (102 : Int32) = some (true, p5) := d5
    rw [le_f z5]
    obtain ⟨h1, d9, X⟩ := (leaf_9 Sw hL h60 (show a + 1 ≤ L by omega) hm R5).kk
    refine ⟨h1, ?_, X⟩
    rw [← d9]
    unfold f_X10_commandHere
    simp only [rs_19 R, rsG R, if_true, d1', rsG R1, d2', rsG R2, d3', rsG R3, d4', rsG R4, d5', if_neg (show ¬ (true = false) by decide), rsG R5, Option.bind_some]
    rfl
  obtain ⟨p5, d5, R5⟩ := sk_no R4 hL h60 ha z5
  have d5' : f_X10_skips p4 131 (102 : Int32) = some (false, p5) := d5
  by_cases z6 : ch (e0 12) L a = w 119
  · have al := (ch_lt z6 (by decide)).1
    obtain ⟨p6, d6, R6⟩ := sk_yes R5 hL h60 ha z6
    have d6' : f_X10_skips p5 131 (119 : Int32) = some (true, p6) := d6
    rw [le_w z6]
    obtain ⟨h1, d9, X⟩ := (leaf_11 Sw hL h60 (show a + 1 ≤ L by omega) hm R6).kk
    refine ⟨h1, ?_, X⟩
    rw [← d9]
    unfold f_X10_commandHere
    simp only [rs_19 R, rsG R, if_true, d1', rsG R1, d2', rsG R2, d3', rsG R3, d4', rsG R4, d5', rsG R5, d6', if_neg (show ¬ (true = false) by decide), rsG R6, Option.bind_some]
    rfl
  obtain ⟨p6, d6, R6⟩ := sk_no R5 hL h60 ha z6
  have d6' : f_X10_skips p5 131 (119 : Int32) = some (false, p6) := d6
  by_cases z7 : ch (e0 12) L a = w 108
  · have al := (ch_lt z7 (by decide)).1
    obtain ⟨p7, d7, R7⟩ := sk_yes R6 hL h60 ha z7
    have d7' : f_X10_skips p6 131 (108 : Int32) = some (true, p7) := d7
    by_cases y : ch (e0 12) L (a + 1) = w 97
    · have al2 := (ch_lt y (by decide)).1
      obtain ⟨p9, d8, R9⟩ := sk_yes R7 hL h60 (show a + 1 ≤ L by omega) y
      have d8' : f_X10_skips p7 131 (97 : Int32) = some (true, p9) := d8
      rw [le_la z7 y]
      obtain ⟨h1, d9, X⟩ := (leaf_8 Sw hL h60 (show a + 1 + 1 ≤ L by omega) hm R9).kk
      refine ⟨h1, ?_, X⟩
      unfold f_X10_commandHere
      simp only [rs_19 R, rsG R, if_true, d1', rsG R1, d2', rsG R2, d3', rsG R3, d4', rsG R4, d5', rsG R5, d6', rsG R6, d7', if_neg (show ¬ (true = false) by decide), rsG R7, d8', rsG R9, d9, Option.bind_some]
    · obtain ⟨p9, d8, R9⟩ := sk_no R7 hL h60 (show a + 1 ≤ L by omega) y
      have d8' : f_X10_skips p7 131 (97 : Int32) = some (false, p9) := d8
      rw [le_li z7 y]
      obtain ⟨h1, d9, X⟩ := (leaf_10 Sw hL h60 (show a + 1 ≤ L by omega) hm R9).kk
      refine ⟨h1, ?_, X⟩
      unfold f_X10_commandHere
      simp only [rs_19 R, rsG R, if_true, d1', rsG R1, d2', rsG R2, d3', rsG R3, d4', rsG R4, d5', rsG R5, d6', rsG R6, d7', if_neg (show ¬ (true = false) by decide), rsG R7, d8', rsG R9, d9, Option.bind_some]
  obtain ⟨p7, d7, R7⟩ := sk_no R6 hL h60 ha z7
  have d7' : f_X10_skips p6 131 (108 : Int32) = some (false, p7) := d7
  by_cases z8 : ch (e0 12) L a = w 110
  · have al := (ch_lt z8 (by decide)).1
    obtain ⟨p8, d8, R8⟩ := sk_yes R7 hL h60 ha z8
    have d8' : f_X10_skips p7 131 (110 : Int32) = some (true, p8) := d8
    by_cases y : ch (e0 12) L (a + 1) = w 111
    · have al2 := (ch_lt y (by decide)).1
      obtain ⟨p9, d10, R9⟩ := sk_yes R8 hL h60 (show a + 1 ≤ L by omega) y
      have d10' : f_X10_skips p8 131 (111 : Int32) = some (true, p9) := d10
      rw [le_no z8 y]
      obtain ⟨h1, d9, X⟩ := (leaf_0 Sw hL h60 (show a + 1 + 1 ≤ L by omega) hm R9).kk
      refine ⟨h1, ?_, X⟩
      rw [← d9]
      unfold f_X10_commandHere
      simp only [rs_19 R, rsG R, if_true, d1', rsG R1, d2', rsG R2, d3', rsG R3, d4', rsG R4, d5', rsG R5, d6', rsG R6, d7', rsG R7, d8', rsG R8, d10', if_neg (show ¬ (true = false) by decide), rsG R9, Option.bind_some]
      rfl
    · obtain ⟨p9, d10, R9⟩ := sk_no R8 hL h60 (show a + 1 ≤ L by omega) y
      have d10' : f_X10_skips p8 131 (111 : Int32) = some (false, p9) := d10
      rw [le_ne z8 y]
      obtain ⟨h1, d9, X⟩ := (leaf_4 Sw hL h60 (show a + 1 ≤ L by omega) hm R9).kk
      refine ⟨h1, ?_, X⟩
      rw [← d9]
      unfold f_X10_commandHere
      simp only [rs_19 R, rsG R, if_true, d1', rsG R1, d2', rsG R2, d3', rsG R3, d4', rsG R4, d5', rsG R5, d6', rsG R6, d7', rsG R7, d8', rsG R8, d10', rsG R9, Option.bind_some]
      rfl
  obtain ⟨p8, d8, R8⟩ := sk_no R7 hL h60 ha z8
  have d8' : f_X10_skips p7 131 (110 : Int32) = some (false, p8) := d8
  rw [le_none z1 z2 z3 z4 z5 z6 z7 z8]
  refine ⟨p8, ?_, fun y => zff y, u0, R8⟩
  unfold f_X10_commandHere
  simp only [rs_19 R, rsG R, if_true, d1', rsG R1, d2', rsG R2, d3', rsG R3, d4', rsG R4, d5', rsG R5, d6', rsG R6, d7', rsG R7, d8', if_neg (show ¬ (false = true) by decide), Option.bind_some]
/-- what is told of the commands -/
def MC (u : Nat → Int32) (l : List (Nat × List Int32)) : Prop := ∀ i, i < l.length → u (4 * i) = w (l.getD i (0, [])).1 ∧ ∀ j, j < (l.getD i (0, [])).2.length → u (4 * i + 1 + j) = (l.getD i (0, [])).2.getD j 0
theorem vals_le (s : Nat → Int32) (L : Nat) : ∀ (r : List Nat) (a : Nat) (vs : List Int32), (mT s L r a vs).2.2.length ≤ vs.length + cvs r := by
  intro r
  induction r with
  | nil => intro a vs; exact Nat.le_refl _
  | cons c r ih =>
    intro a vs
    have g := mP_len s L c a vs
    have hvc : cvs (c :: r) = cv c + cvs r := rfl
    unfold mT
    by_cases z : (mP s L c a vs).1 = true
    · rw [if_pos z]
      have := ih (mP s L c a vs).2.1 (mP s L c a vs).2.2
      omega
    · rw [if_neg z]; omega
theorem MC.add (C : MC u l) (hm : l.length = m) (hv : vs.length ≤ 3) (hl : ∀ x, x ∈ l → x.2.length ≤ 3) (h1 : ∀ i, i < 4 * m → u0 i = u i) (h2 : u0 (4 * m) = w k) (h3 : ∀ j, j < vs.length → u0 (4 * m + 1 + j) = vs.getD j 0) : MC u0 (l ++ [(k, vs)]) := by
  subst hm
  intro i hi
  rw [List.length_append] at hi
  have hi : i < l.length + 1 := hi
  by_cases z : i = l.length
  · subst z
    rw [getD_app1]
    exact ⟨h2, h3⟩
  · obtain ⟨c1, c2⟩ := C i (by omega)
    have hx : (l.getD i (0, [])).2.length ≤ 3 := by
      have hi' : i < l.length := by omega
      have : l.getD i (0, []) ∈ l := by
        simp [List.getElem?_eq_getElem hi']
      exact hl _ this
    rw [getD_app0 l _ _ (by omega), h1 _ (by omega)]
    exact ⟨c1, fun j hj => (h1 _ (by omega)).trans (c2 j hj)⟩
theorem rs_tell (R : RS h0 h e0 a m u) (k : Nat) : ∃ h1, wr h 131 12 19 (.int (w k)) = some h1 ∧ RS h0 h1 e0 a k u := by
  obtain ⟨e, M, q, e17, e19, e18, F⟩ := R
  obtain ⟨h1, d1, M1, F1⟩ := M.w19 (w k)
  exact ⟨h1, d1, _, M1, fun j j1 j2 j3 => (if_neg j3).trans (q j j1 j2 j3), e17, rfl, e18, F.trans F1⟩
theorem text_loop (Sw : ∀ h1, fr (mW 131) h0 h1 → MWd h1) (hL : e0 13 0 = w L) (h60 : L ≤ 60) : ∀ d i fu a (pre : List (Nat × List Int32)) (u : Nat → Int32) (h : PH), i + d = 15 → d < fu → a ≤ L → 5 * i ≤ a → pre.length = i → (∀ x, x ∈ pre → x.2.length ≤ 3) → RS h0 h e0 a i u → MC u pre → ∃ h1 res m1 u1, f_X10_isText_L10 fu h 131 = some res ∧ RS h0 h1 e0 (pA (e0 12) L d a).2.1 m1 u1 ∧ (((pA (e0 12) L d a).1 = true ∧ res = Sum.inr h1 ∧ (pA (e0 12) L d a).2.1 = L ∧ m1 = (pre ++ (pA (e0 12) L d a).2.2).length ∧ MC u1 (pre ++ (pA (e0 12) L d a).2.2) ∧ m1 ≤ 13) ∨ ((pA (e0 12) L d a).1 = false ∧ (pA (e0 12) L d a).2.1 ≤ 61 ∧ (res = Sum.inl (false, h1) ∨ (res = Sum.inr h1 ∧ (pA (e0 12) L d a).2.1 ≠ L)))) := by
  intro d
  induction d with
  | zero => intro i fu a pre u h hi _ ha h5; omega
  | succ d ih =>
    intro i fu a pre u h hi hf ha h5 hp hv R C
    cases fu with
    | zero => exact absurd hf (Nat.not_lt_zero _)
    | succ fu =>
      obtain ⟨p1, d1, X, u1, R1⟩ := cmd_ok Sw hL h60 ha (show i ≤ 12 by omega) R
      by_cases x : (pC (e0 12) L a).1 = true
      · obtain ⟨q1, q2, q3, q4, q5⟩ := pC_yes ha x
        obtain ⟨u2, R2, v1, v2, v3⟩ := X x
        obtain ⟨p2, d2, R3⟩ := rs_tell R2 (i + 1)
        have lv : (pC (e0 12) L a).2.2.2.length ≤ 3 := by
          rw [q5]
          have g1 := vals_le (e0 12) L (tp (pC (e0 12) L a).2.2.1) a []
          have g2 := (tp_ok _ q1).1
          have g3 : ([] : List Int32).length = 0 := rfl
          omega
        have C2 : MC u2 (pre ++ [((pC (e0 12) L a).2.2.1, (pC (e0 12) L a).2.2.2)]) := C.add hp lv hv v1 v2 v3
        have C2 : MC u2 (pre ++ [(pC (e0 12) L a).2.2]) := C2
        by_cases z : (pC (e0 12) L a).2.1 = L
        · have ep : pA (e0 12) L (d + 1) a = (true, L, [(pC (e0 12) L a).2.2]) := by
            unfold pA
            rw [if_pos x, if_pos z]
          have nc : ¬ ch (e0 12) L (pC (e0 12) L a).2.1 = w 59 := fun y => by
            have := (ch_lt y (by decide)).1
            omega
          obtain ⟨p3, d3, R4⟩ := sk_no R3 hL h60 q3 nc
          have d3' : f_X10_skips p2 131 (59 : Int32) = some (false, p3) := d3
          rw [ep]
          rw [z] at R4
          refine ⟨p3, _, i + 1, u2, ?_, R4, Or.inl ⟨rfl, rfl, rfl, by rw [List.length_append, hp]; rfl, C2, by omega⟩⟩
          simp only [f_X10_isText_L10, rsG R, d1, x, if_true, rs_19 R2, w_succ, d2, rsG R3, d3', if_neg (show ¬ (false = true) by decide), Option.bind_some]
        · have lt : (pC (e0 12) L a).2.1 < L := by omega
          have ech : ch (e0 12) L (pC (e0 12) L a).2.1 = e0 12 (pC (e0 12) L a).2.1 := if_pos lt
          by_cases y : e0 12 (pC (e0 12) L a).2.1 = 59
          · have ep : pA (e0 12) L (d + 1) a = ((pA (e0 12) L d ((pC (e0 12) L a).2.1 + 1)).1, (pA (e0 12) L d ((pC (e0 12) L a).2.1 + 1)).2.1, (pC (e0 12) L a).2.2 :: (pA (e0 12) L d ((pC (e0 12) L a).2.1 + 1)).2.2) := by
              show (if (pC (e0 12) L a).1 = true then _ else _) = _
              rw [if_pos x, if_neg z, if_pos y]
            obtain ⟨p3, d3, R4⟩ := sk_yes R3 hL h60 q3 (ech.trans y)
            have d3' : f_X10_skips p2 131 (59 : Int32) = some (true, p3) := d3
            obtain ⟨h2, res, m1, u3, e2, R5, Y⟩ := ih (i + 1) fu ((pC (e0 12) L a).2.1 + 1) (pre ++ [(pC (e0 12) L a).2.2]) u2 p3 (by omega) (by omega) (by omega) (by omega) (by rw [List.length_append, hp]; rfl) (fun b hb => by
              rcases List.mem_append.mp hb with q | q
              · exact hv b q
              · rw [List.mem_singleton.mp q]; exact lv) R4 C2
            rw [ep]
            have ea : pre ++ ((pC (e0 12) L a).2.2 :: (pA (e0 12) L d ((pC (e0 12) L a).2.1 + 1)).2.2) = (pre ++ [(pC (e0 12) L a).2.2]) ++ (pA (e0 12) L d ((pC (e0 12) L a).2.1 + 1)).2.2 := by simp
            refine ⟨h2, res, m1, u3, ?_, R5, ?_⟩
            · simp only [f_X10_isText_L10, rsG R, d1, x, if_true, rs_19 R2, w_succ, d2, rsG R3, d3', Option.bind_some]
              exact e2
            · rcases Y with ⟨y1, y2, y3, y4, y5, y6⟩ | ⟨y1, y2, y3⟩
              · exact Or.inl ⟨y1, y2, y3, by rw [ea]; exact y4, by rw [ea]; exact y5, y6⟩
              · exact Or.inr ⟨y1, y2, y3⟩
          · have ep : pA (e0 12) L (d + 1) a = (false, (pC (e0 12) L a).2.1, []) := by
              show (if (pC (e0 12) L a).1 = true then _ else _) = _
              rw [if_pos x, if_neg z, if_neg y]
            obtain ⟨p3, d3, R4⟩ := sk_no R3 hL h60 q3 (c := 59) (by rw [ech]; exact y)
            have d3' : f_X10_skips p2 131 (59 : Int32) = some (false, p3) := d3
            rw [ep]
            refine ⟨p3, _, i + 1, u2, ?_, R4, Or.inr ⟨rfl, by show (pC (e0 12) L a).2.1 ≤ 61; omega, Or.inr ⟨rfl, z⟩⟩⟩
            simp only [f_X10_isText_L10, rsG R, d1, x, if_true, rs_19 R2, w_succ, d2, rsG R3, d3', if_neg (show ¬ (false = true) by decide), Option.bind_some]
      · have x' : (pC (e0 12) L a).1 = false := by simpa using x
        have ep : pA (e0 12) L (d + 1) a = (false, (pC (e0 12) L a).2.1, []) := by
          show (if (pC (e0 12) L a).1 = true then _ else _) = _
          rw [if_neg x]
        rw [ep]
        refine ⟨p1, _, i, u1, ?_, R1, Or.inr ⟨rfl, ?_, Or.inl rfl⟩⟩
        · simp only [f_X10_isText_L10, rsG R, d1, x', if_neg (show ¬ (false = true) by decide), Option.bind_some]
        · show (pC (e0 12) L a).2.1 ≤ 61
          have key : ∀ d i fu, i + d = 12 → fu ≤ L → (pcl (e0 12) L a d i fu).2.1 ≤ L := by
            intro d
            induction d with
            | zero => intro i fu _ hfu; exact hfu
            | succ d ih2 =>
              intro i fu hi hfu
              obtain ⟨-, -, -, t4⟩ := tp_ok i (by omega)
              have key2 : ∀ (r : List Nat) (a : Nat) (vs : List Int32), (∀ c, c ∈ r → c < 128) → a ≤ L → (mT (e0 12) L r a vs).2.1 ≤ L := by
                intro r
                induction r with
                | nil => intro a vs _ ha; exact ha
                | cons c r ih3 =>
                  intro a vs hr ha
                  unfold mT
                  have hm := mP_leL (s := e0 12) (vs := vs) (hr c List.mem_cons_self) ha
                  by_cases y : (mP (e0 12) L c a vs).1 = true
                  · rw [if_pos y]; exact ih3 _ _ (fun c hc => hr c (List.mem_cons_of_mem _ hc)) hm
                  · rw [if_neg y]; exact hm
              have gl := key2 (tp i) a [] t4 ha
              unfold pcl
              by_cases y : (mT (e0 12) L (tp i) a []).1 = true
              · rw [if_pos y]; exact gl
              · rw [if_neg y]; exact ih2 (i + 1) _ (by omega) (by omega)
          have := key 12 0 a rfl ha
          have h2 : (pC (e0 12) L a).2.1 ≤ L := this
          omega
theorem isText_ok {e : CS} (Sw : ∀ h1, fr (mW 131) h h1 → MWd h1) (M : MoC h 131 e) (hL : e 13 0 = w L) (h60 : L ≤ 60) : ∃ h1 m1 u1, f_X10_isText h 131 = some ((pA (e 12) L 15 0).1, h1) ∧ RS h h1 e (pA (e 12) L 15 0).2.1 m1 u1 ∧ ((pA (e 12) L 15 0).1 = true → m1 = (pA (e 12) L 15 0).2.2.length ∧ MC u1 (pA (e 12) L 15 0).2.2 ∧ m1 ≤ 13) := by
  obtain ⟨p1, d1, M1, F1⟩ := M.w17 0
  obtain ⟨p2, d2, M2, F2⟩ := M1.w19 0
  have R : RS h p2 e 0 0 (e 18) := ⟨_, M2, fun j j1 j2 j3 => (if_neg j3).trans (if_neg j1), rfl, rfl, rfl, F1.trans F2⟩
  obtain ⟨h1, res, m1, u1, e1, R1, Y⟩ := text_loop Sw hL h60 15 0 FV 0 [] (e 18) p2 (by decide) (by rw [FV_eq]; decide) (Nat.zero_le _) (by decide) rfl (fun x hx => absurd hx (by simp)) R (fun i hi => absurd hi (Nat.not_lt_zero i))
  have d1' : wr h 131 12 17 (.int (0 : Int32)) = some p1 := d1
  have d2' : wr p1 131 12 19 (.int (0 : Int32)) = some p2 := d2
  refine ⟨h1, m1, u1, ?_, R1, fun z => ?_⟩
  · unfold f_X10_isText
    simp only [d1', d2', e1, Option.bind_some]
    rcases Y with ⟨y1, y2, y3, y4, y5, y6⟩ | ⟨y1, y6, y2⟩
    · rw [y2, y1]
      rw [y3] at R1
      show ((rdI h1 131 12 17).bind _) = _
      simp only [rs_17 R1, rs_13 R1 hL, Option.bind_some]
      exact if_neg (fun z => z trivial)
    · rw [y1]
      rcases y2 with y2 | ⟨y2, y3⟩
      · rw [y2]; rfl
      · rw [y2]
        show ((rdI h1 131 12 17).bind _) = _
        simp only [rs_17 R1, rs_13 R1 hL, Option.bind_some]
        exact if_pos (fun z => y3 ((w_inj (by omega) (by omega)).mp z))
  · rcases Y with ⟨y1, y2, y3, y4, y5, y6⟩ | ⟨y1, y6, y2⟩
    · exact ⟨y4, y5, y6⟩
    · rw [y1] at z; exact absurd z (by decide)
end MHERE
