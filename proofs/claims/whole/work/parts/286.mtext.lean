/-! THE REFERENCE'S PARSER: its steps -/
section MTEXT
variable {h h0 h1 : PH} {e0 : CS} {a c d i k n L m p : Nat} {vs : List Int32} {cs r : List Nat} {s u u0 : Nat → Int32}
/-- the reference within a text: the place, how many are told, what is told -/
def RS (h0 h : PH) (e0 : CS) (a m : Nat) (u : Nat → Int32) : Prop := ∃ e, MoC h 131 e ∧ (∀ j, j ≠ 17 → j ≠ 18 → j ≠ 19 → e j = e0 j) ∧ e 17 0 = w a ∧ e 19 0 = w m ∧ e 18 = u ∧ fr (mW 131) h0 h
theorem rsG (R : RS h0 h e0 a m u) : gd h 131 12 = some () := by
  obtain ⟨e, M, -⟩ := R
  exact M.gd
theorem rs_17 (R : RS h0 h e0 a m u) : rdI h 131 12 17 = some (w a) := by
  obtain ⟨e, M, -, e17, -⟩ := R
  rw [M.i17, e17]
theorem rs_19 (R : RS h0 h e0 a m u) : rdI h 131 12 19 = some (w m) := by
  obtain ⟨e, M, -, -, e19, -⟩ := R
  rw [M.i19, e19]
theorem rs_13 (R : RS h0 h e0 a m u) (hL : e0 13 0 = w L) : rdI h 131 12 13 = some (w L) := by
  obtain ⟨e, M, q, -⟩ := R
  rw [M.i13, q 13 (by decide) (by decide) (by decide), hL]
theorem rs_r12 (R : RS h0 h e0 a m u) : rdR h 131 12 12 = some (131 + 5) := by
  obtain ⟨e, M, -⟩ := R
  exact M.r12
theorem rs_r18 (R : RS h0 h e0 a m u) : rdR h 131 12 18 = some (131 + 7) := by
  obtain ⟨e, M, -⟩ := R
  exact M.r18
theorem rs_at (R : RS h0 h e0 a m u) (hk : k < 60) : alI .int h (131 + 5) (w k) = some (e0 12 k) := by
  obtain ⟨e, M, q, -⟩ := R
  have := M.a12 hk
  rw [q 12 (by decide) (by decide) (by decide)] at this
  exact this
theorem rs_tl (R : RS h0 h e0 a m u) (hk : k < 124) : alI .int h (131 + 7) (w k) = some (u k) := by
  obtain ⟨e, M, q, -, -, e18, -⟩ := R
  have := M.a18 hk
  rw [e18] at this
  exact this
theorem rs_go (R : RS h0 h e0 a m u) (k : Nat) : ∃ h1, wr h 131 12 17 (.int (w k)) = some h1 ∧ RS h0 h1 e0 k m u := by
  obtain ⟨e, M, q, e17, e19, e18, F⟩ := R
  obtain ⟨h1, d1, M1, F1⟩ := M.w17 (w k)
  exact ⟨h1, d1, _, M1, fun j j1 j2 j3 => (if_neg j1).trans (q j j1 j2 j3), rfl, e19, e18, F.trans F1⟩
theorem rs_put (R : RS h0 h e0 a m u) (hk : k < 124) (x : Int32) : ∃ h1, asI .int h (131 + 7) (w k) x = some h1 ∧ RS h0 h1 e0 a m (upd u k x) := by
  obtain ⟨e, M, q, e17, e19, e18, F⟩ := R
  obtain ⟨h1, d1, M1, F1⟩ := M.s18 x hk
  refine ⟨h1, d1, _, M1, fun j j1 j2 j3 => (if_neg j2).trans (q j j1 j2 j3), e17, e19, ?_, F.trans F1⟩
  show upd (e 18) k x = _
  rw [e18]
theorem here_ok (R : RS h0 h e0 a m u) (hL : e0 13 0 = w L) (h60 : L ≤ 60) (ha : a ≤ 61) : f_X10_here h 131 = some (ch (e0 12) L a) := by
  have le : (w L ≤ w a) = (L ≤ a) := propext (w_le (by omega) (by omega))
  unfold f_X10_here ch
  by_cases z : L ≤ a
  · rw [if_neg (show ¬ a < L by omega)]
    simp only [rs_17 R, rs_13 R hL, le, if_pos z, Option.bind_some]
  · rw [if_pos (show a < L by omega)]
    simp only [rs_17 R, rs_13 R hL, le, if_neg z, Option.bind_some, rs_r12 R, rs_at R (show a < 60 by omega)]
theorem skips_ok (R : RS h0 h e0 a m u) (hL : e0 13 0 = w L) (h60 : L ≤ 60) (ha : a ≤ 61) (c : Nat) : ∃ h1, f_X10_skips h 131 (w c) = some (decide (ch (e0 12) L a = w c), h1) ∧ RS h0 h1 e0 (if ch (e0 12) L a = w c then a + 1 else a) m u := by
  unfold f_X10_skips
  by_cases y : ch (e0 12) L a = w c
  · obtain ⟨h1, d1, R1⟩ := rs_go R (a + 1)
    refine ⟨h1, ?_, by rw [if_pos y]; exact R1⟩
    simp only [rsG R, here_ok R hL h60 ha, if_pos y, rs_17 R, w_succ, d1, decide_eq_true y, Option.bind_some]
  · refine ⟨h, ?_, by rw [if_neg y]; exact R⟩
    simp only [rsG R, here_ok R hL h60 ha, if_neg y, decide_eq_false y, Option.bind_some]
/-- the reference within a command: what was told before stands, this one's kind and values -/
def RV (h0 h : PH) (e0 : CS) (a m : Nat) (u0 : Nat → Int32) (k : Nat) (vs : List Int32) : Prop := ∃ u, RS h0 h e0 a m u ∧ (∀ i, i < 4 * m → u i = u0 i) ∧ u (4 * m) = w k ∧ ∀ j, j < vs.length → u (4 * m + 1 + j) = vs.getD j 0
/-- a step: its answer, where it stands -/
def PO (h0 : PH) (e0 : CS) (m : Nat) (u0 : Nat → Int32) (k : Nat) (x : Option (Bool × PH)) (q : Bool × Nat × List Int32) : Prop := ∃ h1, x = some (q.1, h1) ∧ (q.1 = true → RV h0 h1 e0 q.2.1 m u0 k q.2.2) ∧ ∃ u, RS h0 h1 e0 q.2.1 m u
def SA (x : Option (Bool × PH)) (f : PH → Option (Bool × PH)) : Option (Bool × PH) := x.bind fun p => if p.1 = false then some (false, p.2) else (gd p.2 131 12).bind fun _ => f p.2
def SE (x : Option (Bool × PH)) : Option (Bool × PH) := x.bind fun p => if p.1 = false then some (false, p.2) else some (true, p.2)
theorem SA_ok {x : Option (Bool × PH)} {f : PH → Option (Bool × PH)} {r2 : List Nat} (P : PO h0 e0 m u0 k x (mT s L r a vs)) (H : ∀ h1, (mT s L r a vs).1 = true → RV h0 h1 e0 (mT s L r a vs).2.1 m u0 k (mT s L r a vs).2.2 → PO h0 e0 m u0 k (f h1) (mT s L r2 (mT s L r a vs).2.1 (mT s L r a vs).2.2)) : PO h0 e0 m u0 k (SA x f) (mT s L (r ++ r2) a vs) := by
  obtain ⟨h1, d1, R1, u, R2⟩ := P
  rw [mT_app]
  by_cases z : (mT s L r a vs).1 = true
  · rw [if_pos z]
    obtain ⟨h2, d2, X⟩ := H h1 z (R1 z)
    refine ⟨h2, ?_, X⟩
    unfold SA
    simp only [d1, z, if_neg (show ¬ (true = false) by decide), rsG R2, d2, Option.bind_some]
  · rw [if_neg z]
    have z' : (mT s L r a vs).1 = false := by simpa using z
    refine ⟨h1, ?_, R1, u, R2⟩
    unfold SA
    simp only [d1, z', if_true, Option.bind_some]
theorem SE_ok {x : Option (Bool × PH)} {q : Bool × Nat × List Int32} (P : PO h0 e0 m u0 k x q) : PO h0 e0 m u0 k (SE x) q := by
  obtain ⟨h1, d1, X⟩ := P
  refine ⟨h1, ?_, X⟩
  unfold SE
  simp only [d1, Option.bind_some]
  cases q.1 <;> rfl
/-- a word -/
theorem word_loop (S : ∀ h', fr (mW 131) h0 h' → StrC h' n cs) (hL : e0 13 0 = w L) (h60 : L ≤ 60) : ∀ (r pre : List Nat) (fu a : Nat) (vs : List Int32) (h : PH), cs = pre ++ r → r.length < fu → a ≤ L → (∀ c, c ∈ r → lit c) → RS h0 h e0 a m u → ∃ h1, f_X10_isWord_L14 fu h 131 n (w pre.length) = some (if (mT (e0 12) L r a vs).1 = true then Sum.inr h1 else Sum.inl (false, h1)) ∧ RS h0 h1 e0 (mT (e0 12) L r a vs).2.1 m u ∧ (mT (e0 12) L r a vs).2.2 = vs := by
  intro r
  induction r with
  | nil =>
    intro pre fu a vs h e hf ha hl R
    have Sh := S h R.choose_spec.2.2.2.2.2
    have el : cs.length = pre.length := by rw [e, List.append_nil]
    cases fu with
    | zero => exact absurd hf (Nat.not_lt_zero _)
    | succ fu =>
      refine ⟨h, ?_, R, rfl⟩
      show f_X10_isWord_L14 (fu + 1) h 131 n (w pre.length) = some (Sum.inr h)
      simp only [f_X10_isWord_L14, strG Sh, str_len Sh, el, Option.bind_some, if_pos is_ge]
  | cons c r ih =>
    intro pre fu a vs h e hf ha hl R
    have Sh := S h R.choose_spec.2.2.2.2.2
    have el : cs.length = pre.length + (r.length + 1) := by rw [e, List.length_append, List.length_cons]
    have l100 : cs.length < 100 := by
      obtain ⟨fs, f, -, -, -, -, p5, -⟩ := Sh
      exact p5
    obtain ⟨sa, sc⟩ := str_at Sh (i := pre.length) (by omega)
    have ec : cs.getD pre.length 0 = c := by rw [e]; simp
    rw [ec] at sa sc
    have lc := hl c List.mem_cons_self
    obtain ⟨p1, d1, R1⟩ := skips_ok R hL h60 (by omega) c
    have nl : ¬ w cs.length ≤ w pre.length := by rw [w_le (by omega) (by omega)]; omega
    cases fu with
    | zero => exact absurd hf (Nat.not_lt_zero _)
    | succ fu =>
      by_cases z : ch (e0 12) L a = w c
      · have al := (ch_lt z sc).1
        rw [if_pos z] at R1
        rw [mT_yes lc z]
        obtain ⟨h1, d2, R2⟩ := ih (pre ++ [c]) fu (a + 1) vs p1 (by rw [e]; simp) (by rw [List.length_cons] at hf; omega) (by omega) (fun c hc => hl c (List.mem_cons_of_mem _ hc)) R1
        have ep : (pre ++ [c]).length = pre.length + 1 := by simp
        rw [ep] at d2
        refine ⟨h1, ?_, R2⟩
        show f_X10_isWord_L14 (fu + 1) h 131 n (w pre.length) = _
        simp only [f_X10_isWord_L14, strG Sh, str_len Sh, Option.bind_some, if_neg nl, sa, rsG R, d1, decide_eq_true z, if_true, w_succ]
        exact d2
      · rw [if_neg z] at R1
        rw [mT_no lc z]
        refine ⟨p1, ?_, R1, rfl⟩
        show f_X10_isWord_L14 (fu + 1) h 131 n (w pre.length) = _
        simp only [f_X10_isWord_L14, strG Sh, str_len Sh, Option.bind_some, if_neg nl, sa, rsG R, d1, decide_eq_false z, if_neg (show ¬ (false = true) by decide)]
theorem word_ok (S : ∀ h', fr (mW 131) h0 h' → StrC h' n cs) (hl : ∀ c, c ∈ cs → lit c) (hcs : cs.length < 100) (hL : e0 13 0 = w L) (h60 : L ≤ 60) (ha : a ≤ L) (hm : m ≤ 12) (R : RS h0 h e0 a m u0) (k : Nat) : PO h0 e0 m u0 k (f_X10_isWord h 131 (w k) n) (mT (e0 12) L cs a []) := by
  obtain ⟨p1, d1, R1⟩ := rs_put R (k := 4 * m) (by omega) (w k)
  obtain ⟨h1, d2, R2, ev⟩ := word_loop (m := m) (u := upd u0 (4 * m) (w k)) S hL h60 cs [] FV a [] p1 rfl (by rw [FV_eq]; omega) ha hl R1
  have d2' : f_X10_isWord_L14 FV p1 131 n (0 : Int32) = some (if (mT (e0 12) L cs a []).1 = true then Sum.inr h1 else Sum.inl (false, h1)) := d2
  have e4 : (4 : Int32) * w m = w (4 * m) := w_mul 4 m
  refine ⟨h1, ?_, fun _ => ⟨_, R2, fun i hi => upd_ne (by omega), upd_eq _ _ _, fun j hj => by rw [ev] at hj; exact absurd hj (Nat.not_lt_zero j)⟩, _, R2⟩
  unfold f_X10_isWord
  simp only [rs_r18 R, rs_19 R, e4, d1, d2', Option.bind_some]
  cases (mT (e0 12) L cs a []).1 <;> rfl
/-- the digits of a number of one or two digits -/
theorem digits_ok (hL : e0 13 0 = w L) (h60 : L ≤ 60) (ha : a ≤ L) (hp : p < 124) (R : RS h0 h e0 a m u) {mo : Nat} (hmo : mo = 1 ∨ mo = 2) : ∃ h1 u1, f_X10_digits h 131 (w p) (w mo) = some (dgt (e0 12) L a, h1) ∧ RS h0 h1 e0 (if dgt (e0 12) L a = true then (if mo = 2 ∧ dgt (e0 12) L (a + 1) = true then a + 2 else a + 1) else a) m u1 ∧ (∀ i, i ≠ p → u1 i = u i) ∧ (dgt (e0 12) L a = true → u1 p = if mo = 2 ∧ dgt (e0 12) L (a + 1) = true then w (10 * dvl (e0 12) a + dvl (e0 12) (a + 1)) else w (dvl (e0 12) a)) := by
  have inD : ∀ b, f_X10_in (ch (e0 12) L b) (48 : Int32) (57 : Int32) = dgt (e0 12) L b := fun b => by
    unfold f_X10_in dgt
    by_cases z : ch (e0 12) L b < 48
    · rw [if_pos z, decide_eq_false (Int32.not_le.mpr z)]; rfl
    · rw [if_neg z, decide_eq_true (Int32.not_lt.mp z)]
      by_cases y : (57 : Int32) < ch (e0 12) L b
      · rw [if_pos y, decide_eq_false (Int32.not_le.mpr y)]; rfl
      · rw [if_neg y, decide_eq_true (Int32.not_lt.mp y)]; rfl
  have chd : ∀ b, dgt (e0 12) L b = true → ch (e0 12) L b = w (48 + dvl (e0 12) b) := fun b hb => by
    unfold ch
    rw [if_pos (dgt_lt hb)]
    exact (dgt_val hb).1
  unfold f_X10_digits
  by_cases z : dgt (e0 12) L a = true
  · have al := dgt_lt z
    have v2 := (dgt_val z).2
    obtain ⟨p1, d1, R1⟩ := rs_put R hp 0
    obtain ⟨p2, d2, R2⟩ := rs_put R1 hp (w (dvl (e0 12) a))
    obtain ⟨p3, d3, R3⟩ := rs_go R2 (a + 1)
    have t1 : alI .int p1 (131 + 7) (w p) = some 0 := (rs_tl R1 hp).trans (congrArg some (upd_eq _ _ _))
    have ev : ((10 : Int32) * 0 + w (48 + dvl (e0 12) a)) - (48 : Int32) = w (dvl (e0 12) a) := by
      have e0' : (10 : Int32) * 0 + w (48 + dvl (e0 12) a) = w (48 + dvl (e0 12) a) := by
        show w 10 * w 0 + _ = _
        rw [w_mul, w_add]
        congr 1
        omega
      rw [e0']
      have := w_sub (a := 48 + dvl (e0 12) a) (b := 48) (by omega)
      rw [show 48 + dvl (e0 12) a - 48 = dvl (e0 12) a by omega] at this
      exact this
    obtain ⟨fu, ef⟩ := FV_s
    obtain ⟨v, ef2⟩ : ∃ v, FV = v + 1 + 1 + 1 := ⟨4093, FV_eq⟩
    have l1 : ¬ w mo ≤ (0 : Int32) := fun y => by
      have := (w_le (b := 0) (by omega) (by decide)).mp y
      omega
    have in1 : f_X10_in (w (48 + dvl (e0 12) a)) (48 : Int32) (57 : Int32) = true := by rw [← chd a z, inD, z]
    have step1 : ∀ fu, f_X10_digits_L25 (fu + 1) p1 131 (w p) (w mo) (0 : Int32) = f_X10_digits_L25 fu p3 131 (w p) (w mo) ((0 : Int32) + (1 : Int32)) := by
      intro fu
      simp only [f_X10_digits_L25, if_neg l1, rsG R1, here_ok R1 hL h60 (show a ≤ 61 by omega), inD, z, in1, if_neg (show ¬ (true = false) by decide), rs_r18 R1, t1, chd a z, ev, d2, rs_17 R2, w_succ, d3, Option.bind_some]
      all_goals rfl
    by_cases y : mo = 2 ∧ dgt (e0 12) L (a + 1) = true
    · obtain ⟨y1, y2⟩ := y
      subst y1
      have al2 := dgt_lt y2
      have v3 := (dgt_val y2).2
      obtain ⟨p4, d4, R4⟩ := rs_put R3 hp (w (10 * dvl (e0 12) a + dvl (e0 12) (a + 1)))
      obtain ⟨p5, d5, R5⟩ := rs_go R4 (a + 2)
      have t3 : alI .int p3 (131 + 7) (w p) = some (w (dvl (e0 12) a)) := (rs_tl R3 hp).trans (congrArg some (upd_eq _ _ _))
      have ev2 : ((10 : Int32) * w (dvl (e0 12) a) + w (48 + dvl (e0 12) (a + 1))) - (48 : Int32) = w (10 * dvl (e0 12) a + dvl (e0 12) (a + 1)) := by
        have e0' : (10 : Int32) * w (dvl (e0 12) a) + w (48 + dvl (e0 12) (a + 1)) = w (10 * dvl (e0 12) a + (48 + dvl (e0 12) (a + 1))) := by
          show w 10 * _ + _ = _
          rw [w_mul, w_add]
        rw [e0']
        have := w_sub (a := 10 * dvl (e0 12) a + (48 + dvl (e0 12) (a + 1))) (b := 48) (by omega)
        rw [show 10 * dvl (e0 12) a + (48 + dvl (e0 12) (a + 1)) - 48 = 10 * dvl (e0 12) a + dvl (e0 12) (a + 1) by omega] at this
        exact this
      have d5' : wr p4 131 12 17 (.int (w (a + 1 + 1))) = some p5 := d5
      have in2 : f_X10_in (w (48 + dvl (e0 12) (a + 1))) (48 : Int32) (57 : Int32) = true := by rw [← chd _ y2, inD, y2]
      have step3 : ∀ fu, f_X10_digits_L25 (fu + 1) p5 131 (w p) (w 2) ((0 : Int32) + (1 : Int32) + (1 : Int32)) = some p5 := by
        intro fu
        simp only [f_X10_digits_L25]
        rw [if_pos (by decide)]
      have step2 : ∀ fu, f_X10_digits_L25 (fu + 1) p3 131 (w p) (w 2) ((0 : Int32) + (1 : Int32)) = f_X10_digits_L25 fu p5 131 (w p) (w 2) ((0 : Int32) + (1 : Int32) + (1 : Int32)) := by
        intro fu
        simp only [f_X10_digits_L25, if_neg (show ¬ w 2 ≤ (0 : Int32) + (1 : Int32) by decide), rsG R3, here_ok R3 hL h60 (show a + 1 ≤ 61 by omega), inD, y2, in2, if_neg (show ¬ (true = false) by decide), rs_r18 R3, t3, chd _ y2, ev2, d4, rs_17 R4, w_succ, d5', Option.bind_some]
        all_goals rfl
      refine ⟨p5, _, ?_, by rw [if_pos z, if_pos ⟨rfl, y2⟩]; exact R5, fun i hi => by rw [upd_ne hi, upd_ne hi, upd_ne hi], fun _ => by rw [if_pos ⟨rfl, y2⟩, upd_eq]⟩
      simp only [rsG R, here_ok R hL h60 (show a ≤ 61 by omega), inD, z, if_true, rs_r18 R, d1, ef2, step1, step2, step3, Option.bind_some]
    · have step2 : ∀ fu, f_X10_digits_L25 (fu + 1) p3 131 (w p) (w mo) ((0 : Int32) + (1 : Int32)) = some p3 := by
        intro fu
        rcases hmo with rfl | rfl
        · simp only [f_X10_digits_L25]
          rw [if_pos (by decide)]
        · have y2 : dgt (e0 12) L (a + 1) = false := by
            cases q : dgt (e0 12) L (a + 1)
            · rfl
            · exact absurd ⟨rfl, q⟩ y
          simp only [f_X10_digits_L25, if_neg (show ¬ w 2 ≤ (0 : Int32) + (1 : Int32) by decide), rsG R3, here_ok R3 hL h60 (show a + 1 ≤ 61 by omega), inD, y2, if_true, Option.bind_some]
      refine ⟨p3, _, ?_, by rw [if_pos z, if_neg y]; exact R3, fun i hi => by rw [upd_ne hi, upd_ne hi], fun _ => by rw [if_neg y, upd_eq]⟩
      simp only [rsG R, here_ok R hL h60 (show a ≤ 61 by omega), inD, z, if_true, rs_r18 R, d1, ef2, step1, step2, Option.bind_some]
  · have z' : dgt (e0 12) L a = false := by simpa using z
    refine ⟨h, u, ?_, by rw [if_neg z]; exact R, fun _ _ => rfl, fun y => absurd y z⟩
    simp only [rsG R, here_ok R hL h60 (show a ≤ 61 by omega), inD, z', if_neg (show ¬ (false = true) by decide), Option.bind_some]
end MTEXT
