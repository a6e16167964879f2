/-! THE REFERENCE'S PARSER: figures, signs, commands -/
section MCMD
variable {h h0 h1 : PH} {e0 : CS} {a c d i k n L m p : Nat} {vs : List Int32} {cs r : List Nat} {s u u0 : Nat → Int32}
theorem rv_gd (R : RV h0 h e0 a m u0 k vs) : gd h 131 12 = some () := by
  obtain ⟨u, R, -⟩ := R
  exact rsG R
/-- a value told behind the others -/
theorem rv_add {x : Int32} {u1 : Nat → Int32} {a1 : Nat} (hu0 : ∀ i, i < 4 * m → u i = u0 i) (huk : u (4 * m) = w k) (huv : ∀ j, j < vs.length → u (4 * m + 1 + j) = vs.getD j 0) (R : RS h0 h1 e0 a1 m u1) (hne : ∀ i, i ≠ 4 * m + 1 + vs.length → u1 i = u i) (hx : u1 (4 * m + 1 + vs.length) = x) : RV h0 h1 e0 a1 m u0 k (vs ++ [x]) := by
  refine ⟨u1, R, fun i hi => (hne i (by omega)).trans (hu0 i hi), (hne _ (by omega)).trans huk, fun j hj => ?_⟩
  rw [List.length_append] at hj
  have hj : j < vs.length + 1 := hj
  by_cases z : j = vs.length
  · rw [z, hx, getD_app1]
  · rw [hne _ (by omega), huv j (by omega), getD_app0 vs _ _ (by omega)]
/-- a separator and a number -/
theorem fig_ok {sep c mo : Nat} (hs : sep < 128) (ls : lit sep) (hc : (c = 78 ∧ mo = 2) ∨ (c = 68 ∧ mo = 1)) (hL : e0 13 0 = w L) (h60 : L ≤ 60) (ha : a ≤ L) (hm : m ≤ 12) (hv : vs.length < 3) (R : RV h0 h e0 a m u0 k vs) {pl : Int32} (hpl : pl = w (4 * m + 1 + vs.length)) : PO h0 e0 m u0 k (f_X10_figures h 131 (w sep) pl (w mo)) (mT (e0 12) L [sep, c] a vs) := by
  obtain ⟨u, R0, q1, q2, q3⟩ := R
  subst hpl
  obtain ⟨p1, d1, R1⟩ := skips_ok R0 hL h60 (by omega) sep
  unfold f_X10_figures
  by_cases z : ch (e0 12) L a = w sep
  · have al := (ch_lt z hs).1
    rw [if_pos z] at R1
    rw [mT_yes ls z]
    obtain ⟨p2, u2, d2, R2, v1, v2⟩ := digits_ok (p := 4 * m + 1 + vs.length) hL h60 (show a + 1 ≤ L by omega) (by omega) R1 (mo := mo) (by rcases hc with q | q <;> omega)
    have em : mT (e0 12) L [c] (a + 1) vs = mP (e0 12) L c (a + 1) vs := by
      show (if (mP (e0 12) L c (a + 1) vs).1 = true then mT (e0 12) L [] _ _ else _) = _
      by_cases y : (mP (e0 12) L c (a + 1) vs).1 = true
      · rw [if_pos y]
        show (true, _, _) = _
        rw [← y]
      · rw [if_neg y]
    rw [em]
    have ep : mP (e0 12) L c (a + 1) vs = if dgt (e0 12) L (a + 1) = true then (true, (if mo = 2 ∧ dgt (e0 12) L (a + 1 + 1) = true then a + 1 + 2 else a + 1 + 1), vs ++ [if mo = 2 ∧ dgt (e0 12) L (a + 1 + 1) = true then w (10 * dvl (e0 12) (a + 1) + dvl (e0 12) (a + 1 + 1)) else w (dvl (e0 12) (a + 1))]) else (false, a + 1, vs) := by
      rcases hc with ⟨rfl, rfl⟩ | ⟨rfl, rfl⟩
      · show (if (78 : Nat) = 78 then _ else _) = _
        rw [if_pos rfl]
        by_cases y : dgt (e0 12) L (a + 1) = true
        · rw [if_pos y, if_pos y]
          by_cases x : dgt (e0 12) L (a + 1 + 1) = true
          · rw [if_pos x, if_pos ⟨rfl, x⟩, if_pos ⟨rfl, x⟩]
          · rw [if_neg x, if_neg (fun q => x q.2), if_neg (fun q => x q.2)]
        · rw [if_neg y, if_neg y]
      · have : mP (e0 12) L 68 (a + 1) vs = if dgt (e0 12) L (a + 1) = true then (true, a + 1 + 1, vs ++ [w (dvl (e0 12) (a + 1))]) else (false, a + 1, vs) := (if_neg (by decide)).trans (if_pos rfl)
        rw [this]
        by_cases y : dgt (e0 12) L (a + 1) = true
        · rw [if_pos y, if_pos y, if_neg (fun q => absurd q.1 (by decide)), if_neg (fun q => absurd q.1 (by decide))]
        · rw [if_neg y, if_neg y]
    rw [ep]
    by_cases y : dgt (e0 12) L (a + 1) = true
    · rw [if_pos y] at R2
      rw [if_pos y]
      refine ⟨p2, ?_, fun _ => rv_add q1 q2 q3 R2 v1 (v2 y), u2, R2⟩
      simp only [rsG R0, d1, decide_eq_true z, if_neg (show ¬ (true = false) by decide), rsG R1, d2, y, Option.bind_some]
    · rw [if_neg y] at R2
      rw [if_neg y]
      have y' : dgt (e0 12) L (a + 1) = false := by simpa using y
      refine ⟨p2, ?_, fun q => zff q, u2, R2⟩
      simp only [rsG R0, d1, decide_eq_true z, if_neg (show ¬ (true = false) by decide), rsG R1, d2, y', if_true, Option.bind_some]
  · rw [if_neg z] at R1
    rw [mT_no ls z]
    refine ⟨p1, ?_, fun q => zff q, u, R1⟩
    simp only [rsG R0, d1, decide_eq_false z, if_true, Option.bind_some]
/-- an equals sign and a digit that may have a sign -/
theorem sgn_ok (hL : e0 13 0 = w L) (h60 : L ≤ 60) (ha : a ≤ L) (hm : m ≤ 12) (hv : vs.length < 3) (R : RV h0 h e0 a m u0 k vs) {pl : Int32} (hpl : pl = w (4 * m + 1 + vs.length)) : PO h0 e0 m u0 k (f_X10_signed h 131 pl) (mT (e0 12) L [61, 83] a vs) := by
  obtain ⟨u, R0, q1, q2, q3⟩ := R
  subst hpl
  obtain ⟨p1, d1, R1⟩ := skips_ok R0 hL h60 (by omega) 61
  have d1' : f_X10_skips h 131 (61 : Int32) = some (decide (ch (e0 12) L a = w 61), p1) := d1
  unfold f_X10_signed
  by_cases z : ch (e0 12) L a = w 61
  · have al := (ch_lt z (by decide)).1
    rw [if_pos z] at R1
    rw [mT_yes (lit_of rfl) z]
    have em : mT (e0 12) L [83] (a + 1) vs = mP (e0 12) L 83 (a + 1) vs := by
      show (if (mP (e0 12) L 83 (a + 1) vs).1 = true then mT (e0 12) L [] _ _ else _) = _
      by_cases y : (mP (e0 12) L 83 (a + 1) vs).1 = true
      · rw [if_pos y]
        show (true, _, _) = _
        rw [← y]
      · rw [if_neg y]
    rw [em]
    have ep : mP (e0 12) L 83 (a + 1) vs = (if ch (e0 12) L (a + 1) = 45 then (if dgt (e0 12) L (a + 1 + 1) = true then (true, a + 1 + 2, vs ++ [-(w (dvl (e0 12) (a + 1 + 1)))]) else (false, a + 1 + 1, vs)) else if dgt (e0 12) L (a + 1) = true then (true, a + 1 + 1, vs ++ [w (dvl (e0 12) (a + 1))]) else (false, a + 1, vs)) := (if_neg (by decide)).trans ((if_neg (by decide)).trans (if_pos rfl))
    rw [ep]
    obtain ⟨p2, d2, R2⟩ := skips_ok R1 hL h60 (by omega) 45
    have d2' : f_X10_skips p1 131 (45 : Int32) = some (decide (ch (e0 12) L (a + 1) = w 45), p2) := d2
    have n21 : ¬ ((1 : Nat) = 2) := by decide
    by_cases y : ch (e0 12) L (a + 1) = w 45
    · have al2 := (ch_lt y (by decide)).1
      rw [if_pos y] at R2
      rw [if_pos (show ch (e0 12) L (a + 1) = 45 from y)]
      obtain ⟨p3, u3, d3, R3, v1, v2⟩ := digits_ok (p := 4 * m + 1 + vs.length) hL h60 (show a + 1 + 1 ≤ L by omega) (by omega) R2 (mo := 1) (Or.inl rfl)
      have d3' : f_X10_digits p2 131 (w (4 * m + 1 + vs.length)) (1 : Int32) = some (dgt (e0 12) L (a + 1 + 1), p3) := d3
      by_cases x : dgt (e0 12) L (a + 1 + 1) = true
      · rw [if_pos x, if_neg (fun q => n21 q.1)] at R3
        rw [if_pos x]
        have v2' := v2 x
        rw [if_neg (fun q => n21 q.1)] at v2'
        have tv : alI .int p3 (131 + 7) (w (4 * m + 1 + vs.length)) = some (w (dvl (e0 12) (a + 1 + 1))) := (rs_tl R3 (by omega)).trans (congrArg some v2')
        obtain ⟨p4, d4, R4⟩ := rs_put R3 (k := 4 * m + 1 + vs.length) (by omega) (-(w (dvl (e0 12) (a + 1 + 1))))
        refine ⟨p4, ?_, fun _ => rv_add q1 q2 q3 R4 (fun i hi => (upd_ne hi).trans (v1 i hi)) (upd_eq _ _ _), _, R4⟩
        simp only [rsG R0, d1', decide_eq_true z, if_true, rsG R1, d2', decide_eq_true y, rsG R2, d3', x, rs_r18 R3, if_neg (show ¬ (true = false) by decide), tv, d4, Option.bind_some]
      · rw [if_neg x] at R3
        rw [if_neg x]
        have x' : dgt (e0 12) L (a + 1 + 1) = false := by simpa using x
        refine ⟨p3, ?_, fun q => zff q, u3, R3⟩
        simp only [rsG R0, d1', decide_eq_true z, if_true, rsG R1, d2', rsG R2, d3', x', if_neg (show ¬ (false = true) by decide), Option.bind_some]
    · rw [if_neg y] at R2
      rw [if_neg (show ¬ ch (e0 12) L (a + 1) = 45 from y)]
      obtain ⟨p3, u3, d3, R3, v1, v2⟩ := digits_ok (p := 4 * m + 1 + vs.length) hL h60 (show a + 1 ≤ L by omega) (by omega) R2 (mo := 1) (Or.inl rfl)
      have d3' : f_X10_digits p2 131 (w (4 * m + 1 + vs.length)) (1 : Int32) = some (dgt (e0 12) L (a + 1), p3) := d3
      by_cases x : dgt (e0 12) L (a + 1) = true
      · rw [if_pos x, if_neg (fun q => n21 q.1)] at R3
        rw [if_pos x]
        have v2' := v2 x
        rw [if_neg (fun q => n21 q.1)] at v2'
        have tv : alI .int p3 (131 + 7) (w (4 * m + 1 + vs.length)) = some (w (dvl (e0 12) (a + 1))) := (rs_tl R3 (by omega)).trans (congrArg some v2')
        obtain ⟨p4, d4, R4⟩ := rs_put R3 (k := 4 * m + 1 + vs.length) (by omega) (w (dvl (e0 12) (a + 1)))
        refine ⟨p4, ?_, fun _ => rv_add q1 q2 q3 R4 (fun i hi => (upd_ne hi).trans (v1 i hi)) (upd_eq _ _ _), _, R4⟩
        simp only [rsG R0, d1', decide_eq_true z, if_true, rsG R1, d2', decide_eq_false y, rsG R2, d3', x, rs_r18 R3, tv, d4, Option.bind_some]
      · rw [if_neg x] at R3
        rw [if_neg x]
        have x' : dgt (e0 12) L (a + 1) = false := by simpa using x
        refine ⟨p3, ?_, fun q => zff q, u3, R3⟩
        simp only [rsG R0, d1', decide_eq_true z, if_true, rsG R1, d2', rsG R2, d3', x', if_neg (show ¬ (false = true) by decide), Option.bind_some]
  · rw [if_neg z] at R1
    rw [mT_no (lit_of rfl) z]
    refine ⟨p1, ?_, fun q => zff q, u, R1⟩
    simp only [rsG R0, d1', decide_eq_false z, if_neg (show ¬ (false = true) by decide), Option.bind_some]
theorem pl0 (m : Nat) : (4 : Int32) * w m + (1 : Int32) = w (4 * m + 1) := by
  show w 4 * w m + w 1 = _
  rw [w_mul, w_add]
theorem pl1 (m : Nat) : ((4 : Int32) * w m + (1 : Int32)) + (1 : Int32) = w (4 * m + 1 + 1) := by
  rw [pl0]; exact w_add _ 1
theorem pl2 (m : Nat) : ((4 : Int32) * w m + (1 : Int32)) + (2 : Int32) = w (4 * m + 1 + 2) := by
  rw [pl0]; exact w_add _ 2
/-- a figure's step puts one value more -/
theorem fig_len {sep c : Nat} (ls : lit sep) (hc : c = 78 ∨ c = 68) (h : (mT s L [sep, c] a vs).1 = true) : (mT s L [sep, c] a vs).2.2.length = vs.length + 1 := by
  by_cases z : ch s L a = w sep
  · rw [mT_yes ls z] at h ⊢
    have em : mT s L [c] (a + 1) vs = mP s L c (a + 1) vs := by
      show (if (mP s L c (a + 1) vs).1 = true then mT s L [] _ _ else _) = _
      by_cases y : (mP s L c (a + 1) vs).1 = true
      · rw [if_pos y]
        show (true, _, _) = _
        rw [← y]
      · rw [if_neg y]
    rw [em] at h ⊢
    revert h
    unfold mP
    rcases hc with rfl | rfl
    · rw [if_pos rfl]
      repeat' split
      all_goals simp
    · rw [if_neg (by decide), if_pos rfl]
      repeat' split
      all_goals simp
  · rw [mT_no ls z] at h
    exact zff h 
end MCMD
