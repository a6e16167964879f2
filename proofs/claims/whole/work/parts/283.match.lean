/-! THE CLASS'S MATCHER -/
section MATCH
variable {h h0 h1 : PH} {t0 : CS} {a c d i k n L : Nat} {vs : List Int32} {cs r : List Nat} {s : Nat → Int32}
/-- a String constant -/
def StrC (h : PH) (n : Nat) (cs : List Nat) : Prop := ∃ fs f, h.2 n = .inr (0, fs) ∧ fs[0]? = some (.ref (n + 1)) ∧ fs[1]? = some (.int 0) ∧ h.2 (n + 1) = .inl (.byte, cs.length, .inl f) ∧ cs.length < 100 ∧ ∀ i, i < cs.length → cs.getD i 0 < 128 ∧ f i = w (cs.getD i 0)
theorem StrC.of_eq {h h' : PH} (S : StrC h n cs) (e1 : h'.2 n = h.2 n) (e2 : h'.2 (n + 1) = h.2 (n + 1)) : StrC h' n cs := by
  obtain ⟨fs, f, p1, p2, p3, p4, p5⟩ := S
  exact ⟨fs, f, e1.trans p1, p2, p3, e2.trans p4, p5⟩
theorem strG (S : StrC h n cs) : gd h n 0 = some () := by
  obtain ⟨fs, f, p1, p2, p3, p4, p5⟩ := S
  exact gd_of p1
theorem str_len (S : StrC h n cs) : f_J0_length_8abf5 h n = some (w cs.length) := by
  have g := strG S
  obtain ⟨fs, f, p1, p2, p3, p4, p5⟩ := S
  unfold f_J0_length_8abf5 f_J0_coder_7d493
  have r0 : rdR h n 0 0 = some (n + 1) := rdR_of p1 p2
  have i1 : rdI h n 0 1 = some 0 := rdI_of p1 p3
  have al : alA .byte h (n + 1) = some (w cs.length) := alA_of p4
  have z0 : zn .byte (0 : Int32) = some 0 := rfl
  simp only [r0, al, g, i1, z0, sh0, Option.bind_some]
theorem str_at (S : StrC h n cs) (hi : i < cs.length) : f_J0_charAt_5068e h n (w i) = some (w (cs.getD i 0)) ∧ cs.getD i 0 < 128 := by
  have g := strG S
  obtain ⟨fs, f, p1, p2, p3, p4, p5, p6⟩ := S
  obtain ⟨q1, q2⟩ := p6 i hi
  refine ⟨?_, q1⟩
  have r0 : rdR h n 0 0 = some (n + 1) := rdR_of p1 p2
  have i1 : rdI h n 0 1 = some 0 := rdI_of p1 p3
  have al : alA .byte h (n + 1) = some (w cs.length) := alA_of p4
  have ab : alI .byte h (n + 1) (w i) = some (w (cs.getD i 0)) := by rw [alI_of p4 (by omega) hi, q2]
  have ck : f_J0_checkIndex_df160 (w i) (w cs.length) = some () := by
    unfold f_J0_checkIndex_df160
    rw [if_neg (w_nonneg (by omega)), if_pos ((w_lt (by omega) (by omega)).mpr hi)]
  have t0 : ¬ ¬ (0 : Int32) = 0 := fun z => z rfl
  unfold f_J0_charAt_5068e f_J0_isLatin1_aae02 f_J1_charAt_3b067
  simp only [g, i1, if_neg t0, Option.bind_some, if_neg (show ¬ (true = false) by decide), r0, al, ck, ab, by_zn _ q1, by_zn2 _ q1]
  rw [if_neg (fun z => z trivial)]
  rfl
/-- the text object within a trial: the place, the values -/
def TxM (h0 h : PH) (t0 : CS) (a : Nat) (vs : List Int32) : Prop := ∃ t, TxC h 121 t ∧ (∀ j, j ≠ 8 → j ≠ 9 → j ≠ 10 → t j = t0 j) ∧ t 8 0 = w a ∧ t 10 0 = w vs.length ∧ (∀ i, i < 3 → t 9 i = vs.getD i 0) ∧ fr (txW 121) h0 h
theorem TxM.gd (M : TxM h0 h t0 a vs) : gd h 121 10 = some () := by
  obtain ⟨t, T, -⟩ := M
  exact T.gd
theorem txm_i8 (M : TxM h0 h t0 a vs) : rdI h 121 10 8 = some (w a) := by
  obtain ⟨t, T, -, e8, -⟩ := M
  rw [T.i8, e8]
theorem txm_i1 (M : TxM h0 h t0 a vs) (hL : t0 1 0 = w L) : rdI h 121 10 1 = some (w L) := by
  obtain ⟨t, T, e, -⟩ := M
  rw [T.i1, e 1 (by decide) (by decide) (by decide), hL]
theorem txm_r0 (M : TxM h0 h t0 a vs) : rdR h 121 10 0 = some 122 := by
  obtain ⟨t, T, -⟩ := M
  exact T.r0
theorem txm_at (M : TxM h0 h t0 a vs) (hk : k < 60) : alI .char h 122 (w k) = some (t0 0 k) := by
  obtain ⟨t, T, e, -⟩ := M
  have := T.a0 hk
  rw [e 0 (by decide) (by decide) (by decide)] at this
  exact this
theorem txm_put (M : TxM h0 h t0 a vs) (k : Nat) : ∃ h1, wr h 121 10 8 (.int (w k)) = some h1 ∧ TxM h0 h1 t0 k vs := by
  obtain ⟨t, T, e, e8, e10, e9, F⟩ := M
  obtain ⟨h1, d1, T1, F1⟩ := T.w8 (w k)
  exact ⟨h1, d1, _, T1, fun j j8 j9 j10 => (if_neg j8).trans (e j j8 j9 j10), rfl, e10, e9, F.trans F1⟩
theorem takes_ok (M : TxM h0 h t0 a vs) (hL : t0 1 0 = w L) (h60 : L ≤ 60) (ha : a ≤ 61) (hc : c < 128) : ∃ h1, f_X8_takes h 121 (w c) = some (decide (ch (t0 0) L a = w c), h1) ∧ TxM h0 h1 t0 (if ch (t0 0) L a = w c then a + 1 else a) vs := by
  have le : (w L ≤ w a) = (L ≤ a) := propext (w_le (by omega) (by omega))
  have m1 : ¬ (-1 : Int32) = w c := by
    have : ∀ c, c < 128 → ¬ (-1 : Int32) = w c := by decide +kernel
    exact this c hc
  by_cases z : L ≤ a
  · have e : ch (t0 0) L a = -1 := if_neg (by omega)
    refine ⟨h, ?_, ?_⟩
    · unfold f_X8_takes
      simp only [txm_i8 M, txm_i1 M hL, le, if_pos z, Option.bind_some, e, decide_eq_false m1]
    · rw [e, if_neg m1]; exact M
  · have e : ch (t0 0) L a = t0 0 a := if_pos (by omega)
    rw [e]
    have ra := txm_at M (k := a) (by omega)
    by_cases y : t0 0 a = w c
    · obtain ⟨h1, d1, M1⟩ := txm_put M (a + 1)
      refine ⟨h1, ?_, by rw [if_pos y]; exact M1⟩
      unfold f_X8_takes
      simp only [txm_i8 M, txm_i1 M hL, le, if_neg z, Option.bind_some, txm_r0 M, ra, if_pos y, w_succ, d1, decide_eq_true y]
    · refine ⟨h, ?_, by rw [if_neg y]; exact M⟩
      unfold f_X8_takes
      simp only [txm_i8 M, txm_i1 M hL, le, if_neg z, Option.bind_some, txm_r0 M, ra, if_neg y, decide_eq_false y]
theorem isDigit_ok (M : TxM h0 h t0 a vs) (hL : t0 1 0 = w L) (h60 : L ≤ 60) (ha : a ≤ 61) : f_X8_isDigitNext h 121 = some (dgt (t0 0) L a) := by
  have le : (w L ≤ w a) = (L ≤ a) := propext (w_le (by omega) (by omega))
  unfold f_X8_isDigitNext dgt ch
  by_cases z : L ≤ a
  · rw [if_neg (show ¬ a < L by omega)]
    simp only [txm_i8 M, txm_i1 M hL, le, if_pos z, Option.bind_some]
    rfl
  · rw [if_pos (show a < L by omega)]
    have ra := txm_at M (k := a) (by omega)
    simp only [txm_i8 M, txm_i1 M hL, le, if_neg z, Option.bind_some, txm_r0 M, ra]
    by_cases y : t0 0 a < 48
    · rw [if_pos y, decide_eq_false (Int32.not_le.mpr y)]; rfl
    · rw [if_neg y, decide_eq_true (Int32.not_lt.mp y)]
      by_cases x : (57 : Int32) < t0 0 a
      · rw [if_pos x, decide_eq_false (Int32.not_le.mpr x)]; rfl
      · rw [if_neg x, decide_eq_true (Int32.not_lt.mp x)]; rfl
theorem takeDigit_ok (M : TxM h0 h t0 a vs) (h60 : L ≤ 60) (hd : dgt (t0 0) L a = true) : ∃ h1, f_X8_takeDigit h 121 = some (w (dvl (t0 0) a), h1) ∧ TxM h0 h1 t0 (a + 1) vs := by
  have hl := dgt_lt hd
  obtain ⟨v1, v2⟩ := dgt_val hd
  have ra := txm_at M (k := a) (by omega)
  obtain ⟨h1, d1, M1⟩ := txm_put M (a + 1)
  refine ⟨h1, ?_, M1⟩
  have e48 : w (48 + dvl (t0 0) a) - (48 : Int32) = w (dvl (t0 0) a) := by
    have := w_sub (a := 48 + dvl (t0 0) a) (b := 48) (by omega)
    rw [show 48 + dvl (t0 0) a - 48 = dvl (t0 0) a by omega] at this
    exact this
  unfold f_X8_takeDigit
  simp only [txm_r0 M, txm_i8 M, ra, v1, w_succ, d1, e48, Option.bind_some]
theorem addValue_ok (M : TxM h0 h t0 a vs) (hv : vs.length < 3) (x : Int32) : ∃ h1, f_X8_addValue h 121 x = some h1 ∧ TxM h0 h1 t0 a (vs ++ [x]) := by
  obtain ⟨t, T, e, e8, e10, e9, F⟩ := M
  obtain ⟨p1, d1, T1, F1⟩ := T.s9 (k := vs.length) x hv
  obtain ⟨p2, d2, T2, F2⟩ := T1.w10 (w (vs.length + 1))
  have i10 : rdI h 121 10 10 = some (w vs.length) := by rw [T.i10, e10]
  have j10 : rdI p1 121 10 10 = some (w vs.length) := by rw [T1.i10]; exact congrArg some e10
  have a3 : alA .int h (121 + 6) = some (w 3) := alA_of T.c9
  have nl : ¬ w 3 ≤ w vs.length := by rw [w_le (by decide) (by omega)]; omega
  refine ⟨p2, ?_, _, T2, fun j j8 j9 j10 => ?_, e8, ?_, fun i hi => ?_, (F.trans F1).trans F2⟩
  · unfold f_X8_addValue
    simp only [i10, T.r9, a3, if_neg nl, d1, j10, w_succ, d2, Option.bind_some]
  · unfold setR
    rw [if_neg j10, if_neg j9]
    exact e j j8 j9 j10
  · show w (vs.length + 1) = w (vs ++ [x]).length
    rw [List.length_append]; rfl
  · show upd (t 9) vs.length x i = _
    unfold upd
    by_cases z : i = vs.length
    · rw [if_pos z, z]
      simp
    · rw [if_neg z, e9 i hi]
      by_cases y : i < vs.length
      · simp [List.getElem?_append_left y]
      · simp only [List.getD_eq_getElem?_getD]
        rw [List.getElem?_eq_none (by omega), List.getElem?_eq_none (by rw [List.length_append]; show vs.length + 1 ≤ i; omega)]
theorem number_ok (M : TxM h0 h t0 a vs) (hL : t0 1 0 = w L) (h60 : L ≤ 60) (ha : a ≤ 60) (hv : vs.length < 3) : ∃ h1, f_X8_matchesNumber h 121 = some ((mP (t0 0) L 78 a vs).1, h1) ∧ TxM h0 h1 t0 (mP (t0 0) L 78 a vs).2.1 (mP (t0 0) L 78 a vs).2.2 := by
  have em : mP (t0 0) L 78 a vs = (if dgt (t0 0) L a = true then (if dgt (t0 0) L (a + 1) = true then (true, a + 2, vs ++ [w (10 * dvl (t0 0) a + dvl (t0 0) (a + 1))]) else (true, a + 1, vs ++ [w (dvl (t0 0) a)])) else (false, a, vs)) := if_pos rfl
  rw [em]
  unfold f_X8_matchesNumber
  by_cases z : dgt (t0 0) L a = true
  · rw [if_pos z]
    obtain ⟨p1, d1, M1⟩ := takeDigit_ok M h60 z
    by_cases y : dgt (t0 0) L (a + 1) = true
    · rw [if_pos y]
      obtain ⟨p2, d2, M2⟩ := takeDigit_ok M1 h60 y
      obtain ⟨p3, d3, M3⟩ := addValue_ok M2 hv (w (10 * dvl (t0 0) a + dvl (t0 0) (a + 1)))
      have e10 : (10 : Int32) * w (dvl (t0 0) a) + w (dvl (t0 0) (a + 1)) = w (10 * dvl (t0 0) a + dvl (t0 0) (a + 1)) := by
        show w 10 * _ + _ = _
        rw [w_mul, w_add]
      refine ⟨p3, ?_, M3⟩
      simp only [M.gd, isDigit_ok M hL h60 (by omega), z, if_true, d1, M1.gd, isDigit_ok M1 hL h60 (show a + 1 ≤ 61 by omega), y, if_neg (show ¬ (true = false) by decide), d2, M2.gd, e10, d3, Option.bind_some]
    · rw [if_neg y]
      obtain ⟨p3, d3, M3⟩ := addValue_ok M1 hv (w (dvl (t0 0) a))
      refine ⟨p3, ?_, M3⟩
      have y' : dgt (t0 0) L (a + 1) = false := by simpa using y
      simp only [M.gd, isDigit_ok M hL h60 (by omega), z, if_true, d1, M1.gd, isDigit_ok M1 hL h60 (show a + 1 ≤ 61 by omega), y', d3, Option.bind_some]
  · rw [if_neg z]
    have z' : dgt (t0 0) L a = false := by simpa using z
    refine ⟨h, ?_, M⟩
    simp only [M.gd, isDigit_ok M hL h60 (by omega), z', if_neg (show ¬ (false = true) by decide), Option.bind_some]
theorem digit_ok (M : TxM h0 h t0 a vs) (hL : t0 1 0 = w L) (h60 : L ≤ 60) (ha : a ≤ 60) (hv : vs.length < 3) (f : Int32) : ∃ h1, f_X8_matchesDigit h 121 f = some (dgt (t0 0) L a, h1) ∧ TxM h0 h1 t0 (if dgt (t0 0) L a = true then a + 1 else a) (if dgt (t0 0) L a = true then vs ++ [f * w (dvl (t0 0) a)] else vs) := by
  unfold f_X8_matchesDigit
  by_cases z : dgt (t0 0) L a = true
  · rw [if_pos z, if_pos z, z]
    obtain ⟨p1, d1, M1⟩ := takeDigit_ok M h60 z
    obtain ⟨p3, d3, M3⟩ := addValue_ok M1 hv (f * w (dvl (t0 0) a))
    refine ⟨p3, ?_, M3⟩
    simp only [M.gd, isDigit_ok M hL h60 (by omega), z, if_true, d1, M1.gd, d3, Option.bind_some]
  · rw [if_neg z, if_neg z]
    have z' : dgt (t0 0) L a = false := by simpa using z
    refine ⟨h, ?_, M⟩
    simp only [M.gd, isDigit_ok M hL h60 (by omega), z', if_neg (show ¬ (false = true) by decide), Option.bind_some]
theorem one_w : ∀ d, d < 10 → (1 : Int32) * w d = w d ∧ (-1 : Int32) * w d = -(w d) := by decide +kernel
theorem part_ok (M : TxM h0 h t0 a vs) (hL : t0 1 0 = w L) (h60 : L ≤ 60) (ha : a ≤ L) (hc : c < 128) (hv : (c = 78 ∨ c = 68 ∨ c = 83) → vs.length < 3) : ∃ h1, f_X8_matchesPart h 121 (w c) = some ((mP (t0 0) L c a vs).1, h1) ∧ TxM h0 h1 t0 (mP (t0 0) L c a vs).2.1 (mP (t0 0) L c a vs).2.2 := by
  have e78 : (w c = (78 : Int32)) = (c = 78) := propext (w_inj (b := 78) (by omega) (by decide))
  have e68 : (w c = (68 : Int32)) = (c = 68) := propext (w_inj (b := 68) (by omega) (by decide))
  have e83 : (w c = (83 : Int32)) = (c = 83) := propext (w_inj (b := 83) (by omega) (by decide))
  unfold f_X8_matchesPart
  simp only [e78, e68, e83]
  by_cases c1 : c = 78
  · rw [if_neg (fun z => z c1)]
    subst c1
    obtain ⟨h1, d1, M1⟩ := number_ok M hL h60 (by omega) (hv (Or.inl rfl))
    exact ⟨h1, by simp only [M.gd, d1, Option.bind_some], M1⟩
  · rw [if_pos c1]
    by_cases c2 : c = 68
    · rw [if_neg (fun z => z c2)]
      subst c2
      obtain ⟨h1, d1, M1⟩ := digit_ok M hL h60 (by omega) (hv (Or.inr (Or.inl rfl))) 1
      have em : mP (t0 0) L 68 a vs = (if dgt (t0 0) L a = true then (true, a + 1, vs ++ [w (dvl (t0 0) a)]) else (false, a, vs)) := (if_neg (by decide)).trans (if_pos rfl)
      rw [em]
      by_cases z : dgt (t0 0) L a = true
      · rw [if_pos z]
        rw [if_pos z, if_pos z, (one_w _ (dgt_val z).2).1] at M1
        exact ⟨h1, by simp only [M.gd, d1, z, Option.bind_some], M1⟩
      · rw [if_neg z]
        rw [if_neg z, if_neg z] at M1
        have z' : dgt (t0 0) L a = false := by simpa using z
        exact ⟨h1, by simp only [M.gd, d1, z', Option.bind_some], M1⟩
    · rw [if_pos c2]
      by_cases c3 : c = 83
      · rw [if_neg (fun z => z c3)]
        subst c3
        obtain ⟨p1, d1, M1⟩ := takes_ok (c := 45) M hL h60 (by omega) (by decide)
        have d1' : f_X8_takes h 121 (45 : Int32) = some (decide (ch (t0 0) L a = w 45), p1) := d1
        have em : mP (t0 0) L 83 a vs = (if ch (t0 0) L a = 45 then (if dgt (t0 0) L (a + 1) = true then (true, a + 2, vs ++ [-(w (dvl (t0 0) (a + 1)))]) else (false, a + 1, vs)) else if dgt (t0 0) L a = true then (true, a + 1, vs ++ [w (dvl (t0 0) a)]) else (false, a, vs)) := (if_neg (by decide)).trans ((if_neg (by decide)).trans (if_pos rfl))
        rw [em]
        by_cases z : ch (t0 0) L a = w 45
        · have z0 : ch (t0 0) L a = 45 := z
          have al := (ch_lt z (by decide)).1
          rw [if_pos z] at M1
          obtain ⟨h1, d2, M2⟩ := digit_ok M1 hL h60 (by omega) (hv (Or.inr (Or.inr rfl))) (-1)
          rw [if_pos z0]
          by_cases y : dgt (t0 0) L (a + 1) = true
          · rw [if_pos y]
            rw [if_pos y, if_pos y, (one_w _ (dgt_val y).2).2] at M2
            exact ⟨h1, by simp only [M.gd, d1', decide_eq_true z, if_neg (show ¬ (true = false) by decide), M1.gd, d2, y, Option.bind_some], M2⟩
          · rw [if_neg y]
            rw [if_neg y, if_neg y] at M2
            have y' : dgt (t0 0) L (a + 1) = false := by simpa using y
            exact ⟨h1, by simp only [M.gd, d1', decide_eq_true z, if_neg (show ¬ (true = false) by decide), M1.gd, d2, y', Option.bind_some], M2⟩
        · have z0 : ¬ ch (t0 0) L a = 45 := z
          rw [if_neg z] at M1
          obtain ⟨h1, d2, M2⟩ := digit_ok M1 hL h60 (by omega) (hv (Or.inr (Or.inr rfl))) 1
          rw [if_neg z0]
          by_cases y : dgt (t0 0) L a = true
          · rw [if_pos y]
            rw [if_pos y, if_pos y, (one_w _ (dgt_val y).2).1] at M2
            exact ⟨h1, by simp only [M.gd, d1', decide_eq_false z, if_true, M1.gd, d2, y, Option.bind_some], M2⟩
          · rw [if_neg y]
            rw [if_neg y, if_neg y] at M2
            have y' : dgt (t0 0) L a = false := by simpa using y
            exact ⟨h1, by simp only [M.gd, d1', decide_eq_false z, if_true, M1.gd, d2, y', Option.bind_some], M2⟩
      · rw [if_pos c3]
        obtain ⟨h1, d1, M1⟩ := takes_ok (c := c) M hL h60 (by omega) hc
        have em : mP (t0 0) L c a vs = (if ch (t0 0) L a = w c then (true, a + 1, vs) else (false, a, vs)) := mP_lit ⟨c1, c2, c3⟩
        rw [em]
        by_cases z : ch (t0 0) L a = w c
        · rw [if_pos z]
          rw [if_pos z] at M1
          exact ⟨h1, by simp only [M.gd, d1, decide_eq_true z, Option.bind_some], M1⟩
        · rw [if_neg z]
          rw [if_neg z] at M1
          exact ⟨h1, by simp only [M.gd, d1, decide_eq_false z, Option.bind_some], M1⟩
end MATCH
