/-! THE CLASS'S PARSER: one template, one command -/
section PARSE
variable {h h0 h1 : PH} {t0 : CS} {a c d i k n L nc : Nat} {vs : List Int32} {cs r : List Nat} {s : Nat → Int32}
def cv (c : Nat) : Nat := if c = 78 ∨ c = 68 ∨ c = 83 then 1 else 0
def cvs : List Nat → Nat
  | [] => 0
  | c :: r => cv c + cvs r
theorem mP_len (s : Nat → Int32) (L c a : Nat) (vs : List Int32) : (mP s L c a vs).2.2.length ≤ vs.length + cv c := by
  unfold mP cv
  by_cases c1 : c = 78
  · rw [if_pos c1, if_pos (Or.inl c1)]
    repeat' split
    all_goals simp
  · rw [if_neg c1]
    by_cases c2 : c = 68
    · rw [if_pos c2, if_pos (Or.inr (Or.inl c2))]
      repeat' split
      all_goals simp
    · rw [if_neg c2]
      by_cases c3 : c = 83
      · rw [if_pos c3, if_pos (Or.inr (Or.inr c3))]
        repeat' split
        all_goals simp
      · rw [if_neg c3]
        repeat' split
        all_goals simp
theorem mP_leL (hc : c < 128) (ha : a ≤ L) : (mP s L c a vs).2.1 ≤ L := by
  by_cases z : (mP s L c a vs).1 = true
  · exact mP_le hc z
  · revert z
    unfold mP
    split
    · split
      · split <;> (intro z; exact absurd rfl z)
      · intro _; exact ha
    · split
      · split
        · intro z; exact absurd rfl z
        · intro _; exact ha
      · split
        · split
          · rename_i d1
            split
            · intro z; exact absurd rfl z
            · intro _
              have := (ch_lt (c := 45) d1 (by decide)).1
              show a + 1 ≤ L
              omega
          · split
            · intro z; exact absurd rfl z
            · intro _; exact ha
        · split
          · intro z; exact absurd rfl z
          · intro _; exact ha
/-- the text object between trials -/
def TxB (h0 h : PH) (t0 : CS) : Prop := ∃ t, TxC h 121 t ∧ (∀ j, j ≠ 8 → j ≠ 9 → j ≠ 10 → t j = t0 j) ∧ fr (txW 121) h0 h
theorem TxM.b (M : TxM h0 h t0 a vs) : TxB h0 h t0 := by
  obtain ⟨t, T, e, -, -, -, F⟩ := M
  exact ⟨t, T, e, F⟩
theorem mloop (S : ∀ h', fr (txW 121) h0 h' → StrC h' n cs) (hL : t0 1 0 = w L) (h60 : L ≤ 60) : ∀ (r pre : List Nat) (fu a : Nat) (vs : List Int32) (h : PH), cs = pre ++ r → r.length < fu → a ≤ L → vs.length + cvs r ≤ 3 → TxM h0 h t0 a vs → ∃ h1, f_X8_matches_L20 fu h 121 n (w pre.length) = some (if (mT (t0 0) L r a vs).1 = true then Sum.inr h1 else Sum.inl (false, h1)) ∧ TxM h0 h1 t0 (mT (t0 0) L r a vs).2.1 (mT (t0 0) L r a vs).2.2 := by
  intro r
  induction r with
  | nil =>
    intro pre fu a vs h e hf ha hv M
    have F : fr (txW 121) h0 h := M.choose_spec.2.2.2.2.2
    have Sh := S h F
    have el : cs.length = pre.length := by rw [e, List.append_nil]
    cases fu with
    | zero => exact absurd hf (Nat.not_lt_zero _)
    | succ fu =>
      refine ⟨h, ?_, M⟩
      show f_X8_matches_L20 (fu + 1) h 121 n (w pre.length) = some (Sum.inr h)
      simp only [f_X8_matches_L20, strG Sh, str_len Sh, el, Option.bind_some, if_pos is_ge]
  | cons c r ih =>
    intro pre fu a vs h e hf ha hv M
    have F : fr (txW 121) h0 h := M.choose_spec.2.2.2.2.2
    have Sh := S h F
    have el : cs.length = pre.length + (r.length + 1) := by rw [e, List.length_append, List.length_cons]
    have hl : pre.length < cs.length := by omega
    have l100 : cs.length < 100 := by
      obtain ⟨fs, f, -, -, -, -, p5, -⟩ := Sh
      exact p5
    obtain ⟨sa, sc⟩ := str_at Sh hl
    have ec : cs.getD pre.length 0 = c := by rw [e]; simp
    rw [ec] at sa sc
    have hvc : cv c + cvs r = cvs (c :: r) := rfl
    obtain ⟨p1, d1, M1⟩ := part_ok (c := c) M hL h60 ha sc (fun z => by
      have : cv c = 1 := if_pos z
      omega)
    have ln := mP_len (t0 0) L c a vs
    have nl : ¬ w cs.length ≤ w pre.length := by rw [w_le (by omega) (by omega)]; omega
    cases fu with
    | zero => exact absurd hf (Nat.not_lt_zero _)
    | succ fu =>
      by_cases z : (mP (t0 0) L c a vs).1 = true
      · obtain ⟨h1, d2, M2⟩ := ih (pre ++ [c]) fu (mP (t0 0) L c a vs).2.1 (mP (t0 0) L c a vs).2.2 p1 (by rw [e]; simp) (by rw [List.length_cons] at hf; omega) (mP_leL sc ha) (by omega) M1
        have em : mT (t0 0) L (c :: r) a vs = mT (t0 0) L r (mP (t0 0) L c a vs).2.1 (mP (t0 0) L c a vs).2.2 := if_pos z
        rw [em]
        refine ⟨h1, ?_, M2⟩
        have ep : (pre ++ [c]).length = pre.length + 1 := by simp
        rw [ep] at d2
        show f_X8_matches_L20 (fu + 1) h 121 n (w pre.length) = _
        simp only [f_X8_matches_L20, strG Sh, str_len Sh, Option.bind_some, if_neg nl, sa, M.gd, d1, z, if_true, w_succ]
        exact d2
      · have em : mT (t0 0) L (c :: r) a vs = mP (t0 0) L c a vs := if_neg z
        rw [em]
        refine ⟨p1, ?_, M1⟩
        rw [if_neg z]
        have z' : (mP (t0 0) L c a vs).1 = false := by simpa using z
        show f_X8_matches_L20 (fu + 1) h 121 n (w pre.length) = _
        simp only [f_X8_matches_L20, strG Sh, str_len Sh, Option.bind_some, if_neg nl, sa, M.gd, d1, z', if_neg (show ¬ (false = true) by decide)]
theorem matches_ok (M : TxB h0 h t0) (S : ∀ h', fr (txW 121) h0 h' → StrC h' n cs) (hL : t0 1 0 = w L) (h60 : L ≤ 60) (ha : a ≤ L) (hv : cvs cs ≤ 3) (hl : cs.length < 100) : ∃ h1, f_X8_matches h 121 n (w a) = some ((mT (t0 0) L cs a []).1, h1) ∧ TxM h0 h1 t0 (mT (t0 0) L cs a []).2.1 (mT (t0 0) L cs a []).2.2 := by
  obtain ⟨t, T, e, F⟩ := M
  obtain ⟨p1, d1, T1, F1⟩ := T.w8 (w a)
  obtain ⟨p2, d2, T2, F2⟩ := T1.w10 0
  obtain ⟨f1, d3, K⟩ := fillA (h := p2) (b := 121 + 6) (Nat.le_trans T2.kK (Nat.le_add_right _ _)) T2.c9 (by decide) 0
  have T3 := T2.row9 f1
  have F3 : fr (txW 121) p2 (p2.1, z_up p2.2 (121 + 6) (.inl (.int, 3, .inl f1))) := fr.up ⟨by omega, by omega⟩
  generalize (p2.1, z_up p2.2 (121 + 6) (.inl (.int, 3, .inl f1))) = p3 at *
  have M3 : TxM h0 p3 t0 a [] := ⟨_, T3, fun j j8 j9 j10 => by
    unfold setR
    rw [if_neg j9, if_neg j10, if_neg j8]
    exact e j j8 j9 j10, rfl, rfl, fun i hi => K i hi, ((F.trans F1).trans F2).trans F3⟩
  obtain ⟨h1, d4, M4⟩ := mloop S hL h60 cs [] FV a [] p3 rfl (by rw [FV_eq]; omega) ha (by show 0 + cvs cs ≤ 3; omega) M3
  refine ⟨h1, ?_, M4⟩
  have d4' : f_X8_matches_L20 FV p3 121 n (0 : Int32) = some (if (mT (t0 0) L cs a []).1 = true then Sum.inr h1 else Sum.inl (false, h1)) := d4
  have d2' : wr p1 121 10 10 (.int (0 : Int32)) = some p2 := d2
  unfold f_X8_matches
  simp only [d1, d2', T2.r9, d3, d4', Option.bind_some]
  cases (mT (t0 0) L cs a []).1 <;> rfl
theorem tmpl_ok : ∀ i, i < 12 → f_X8_templateOf (w i) = some (22 + 2 * i) := by decide +kernel
theorem tp_ok : ∀ i, i < 12 → cvs (tp i) ≤ 3 ∧ (tp i).length < 100 ∧ 4 ≤ (tp i).length ∧ ∀ c, c ∈ tp i → c < 128 := by decide +kernel
/-- a command put to the others -/
theorem addCmd_ok (M : TxM h0 h t0 a vs) (h3 : t0 3 0 = w nc) (hn : nc < 15) (k : Nat) : ∃ h1 t1, f_X8_addCommand h 121 (w k) = some h1 ∧ TxC h1 121 t1 ∧ fr (txW 121) h0 h1 ∧ t1 0 = t0 0 ∧ t1 1 = t0 1 ∧ t1 2 = t0 2 ∧ t1 3 0 = w (nc + 1) ∧ t1 4 = upd (t0 4) nc (w k) ∧ t1 5 = upd (t0 5) nc (vs.getD 0 0) ∧ t1 6 = upd (t0 6) nc (vs.getD 1 0) ∧ t1 7 = upd (t0 7) nc (vs.getD 2 0) ∧ t1 8 0 = w a := by
  obtain ⟨t, T, e, e8, e10, e9, F⟩ := M
  have i3 : rdI h 121 10 3 = some (w nc) := by rw [T.i3, e 3 (by decide) (by decide) (by decide), h3]
  have nl : ¬ (15 : Int32) ≤ w nc := by
    have := w_le (a := 15) (b := nc) (by decide) (by omega)
    exact fun z => by have := this.mp z; omega
  obtain ⟨p1, d1, T1, F1⟩ := T.s4 (k := nc) (w k) hn
  have j1 : rdI p1 121 10 3 = some (w nc) := by rw [T1.i3]; show some (t 3 0) = _; rw [e 3 (by decide) (by decide) (by decide), h3]
  have v0 : alI .int p1 (121 + 6) (0 : Int32) = some (vs.getD 0 0) := (T1.a9 (k := 0) (by decide)).trans (congrArg some (e9 0 (by decide)))
  obtain ⟨p2, d2, T2, F2⟩ := T1.s5 (k := nc) (vs.getD 0 0) hn
  have j2 : rdI p2 121 10 3 = some (w nc) := by rw [T2.i3]; show some (t 3 0) = _; rw [e 3 (by decide) (by decide) (by decide), h3]
  have v1 : alI .int p2 (121 + 6) (1 : Int32) = some (vs.getD 1 0) := (T2.a9 (k := 1) (by decide)).trans (congrArg some (e9 1 (by decide)))
  obtain ⟨p3, d3, T3, F3⟩ := T2.s6 (k := nc) (vs.getD 1 0) hn
  have j3 : rdI p3 121 10 3 = some (w nc) := by rw [T3.i3]; show some (t 3 0) = _; rw [e 3 (by decide) (by decide) (by decide), h3]
  have v2 : alI .int p3 (121 + 6) (2 : Int32) = some (vs.getD 2 0) := (T3.a9 (k := 2) (by decide)).trans (congrArg some (e9 2 (by decide)))
  obtain ⟨p4, d4, T4, F4⟩ := T3.s7 (k := nc) (vs.getD 2 0) hn
  have j4 : rdI p4 121 10 3 = some (w nc) := by rw [T4.i3]; show some (t 3 0) = _; rw [e 3 (by decide) (by decide) (by decide), h3]
  obtain ⟨p5, d5, T5, F5⟩ := T4.w3 (w (nc + 1))
  refine ⟨p5, _, ?_, T5, ((((F.trans F1).trans F2).trans F3).trans F4).trans F5, e 0 (by decide) (by decide) (by decide), e 1 (by decide) (by decide) (by decide), e 2 (by decide) (by decide) (by decide), rfl, ?_, ?_, ?_, ?_, e8⟩
  · unfold f_X8_addCommand
    simp only [i3, if_neg nl, T.r4, d1, T1.r5, j1, T1.r9, v0, d2, T2.r6, j2, T2.r9, v1, d3, T3.r7, j3, T3.r9, v2, d4, j4, w_succ, d5, Option.bind_some]
  · show upd (t 4) nc (w k) = _
    rw [e 4 (by decide) (by decide) (by decide)]
  · show upd (t 5) nc (vs.getD 0 0) = _
    rw [e 5 (by decide) (by decide) (by decide)]
  · show upd (t 6) nc (vs.getD 1 0) = _
    rw [e 6 (by decide) (by decide) (by decide)]
  · show upd (t 7) nc (vs.getD 2 0) = _
    rw [e 7 (by decide) (by decide) (by decide)]
/-- behind a command that was found -/
def TxF (h0 h1 : PH) (t0 t1 : CS) (nc at1 k : Nat) (vs : List Int32) : Prop := TxC h1 121 t1 ∧ fr (txW 121) h0 h1 ∧ t1 0 = t0 0 ∧ t1 1 = t0 1 ∧ t1 2 = t0 2 ∧ t1 3 0 = w (nc + 1) ∧ t1 4 = upd (t0 4) nc (w k) ∧ t1 5 = upd (t0 5) nc (vs.getD 0 0) ∧ t1 6 = upd (t0 6) nc (vs.getD 1 0) ∧ t1 7 = upd (t0 7) nc (vs.getD 2 0) ∧ t1 8 0 = w at1
/-- behind a command that was not found -/
def TxN (h0 h1 : PH) (t0 t1 : CS) (F : Nat) : Prop := TxC h1 121 t1 ∧ fr (txW 121) h0 h1 ∧ t1 0 = t0 0 ∧ t1 1 = t0 1 ∧ t1 2 0 = w F
theorem pcmd_loop (S : ∀ i, i < 12 → ∀ h', fr (txW 121) h0 h' → StrC h' (22 + 2 * i) (tp i)) (hL : t0 1 0 = w L) (h60 : L ≤ 60) (ha : a ≤ L) (h3 : t0 3 0 = w nc) (hn : nc < 15) : ∀ d i fu FU (h : PH), i + d = 12 → d < FU → TxB h0 h t0 → fu ≤ L → ∃ h1, ((pcl (t0 0) L a d i fu).1 = true ∧ f_X8_parseCommand_L4 FU h 121 (w a) (w fu) (w i) = some (Sum.inl (true, h1)) ∧ ∃ t1, TxF h0 h1 t0 t1 nc (pcl (t0 0) L a d i fu).2.1 (pcl (t0 0) L a d i fu).2.2.1 (pcl (t0 0) L a d i fu).2.2.2) ∨ ((pcl (t0 0) L a d i fu).1 = false ∧ f_X8_parseCommand_L4 FU h 121 (w a) (w fu) (w i) = some (Sum.inr (w (pcl (t0 0) L a d i fu).2.1, h1)) ∧ TxB h0 h1 t0 ∧ (pcl (t0 0) L a d i fu).2.1 ≤ L) := by
  intro d
  induction d with
  | zero =>
    intro i fu FU h hi hF M hfu
    cases FU with
    | zero => exact absurd hF (Nat.not_lt_zero _)
    | succ FU =>
      have e12 : (12 : Int32) ≤ w i := (w_le (a := 12) (by decide) (by omega)).mpr (by omega)
      refine ⟨h, Or.inr ⟨rfl, ?_, M, hfu⟩⟩
      show f_X8_parseCommand_L4 (FU + 1) h 121 (w a) (w fu) (w i) = _
      simp only [f_X8_parseCommand_L4, if_pos e12]
      rfl
  | succ d ih =>
    intro i fu FU h hi hF M hfu
    cases FU with
    | zero => exact absurd hF (Nat.not_lt_zero _)
    | succ FU =>
      have i12 : i < 12 := by omega
      have n12 : ¬ (12 : Int32) ≤ w i := fun z => by
        have := (w_le (a := 12) (b := i) (by decide) (by omega)).mp z
        omega
      obtain ⟨t1', t2', t3', t4'⟩ := tp_ok i i12
      obtain ⟨p1, d1, M1⟩ := matches_ok M (S i i12) hL h60 ha t1' t2'
      have gb : gd h 121 10 = some () := by
        obtain ⟨t, T, -⟩ := M
        exact T.gd
      by_cases z : (mT (t0 0) L (tp i) a []).1 = true
      · obtain ⟨h1, t1, d2, X⟩ := addCmd_ok M1 h3 hn i
        have ep : pcl (t0 0) L a (d + 1) i fu = (true, (mT (t0 0) L (tp i) a []).2.1, i, (mT (t0 0) L (tp i) a []).2.2) := if_pos z
        rw [ep]
        refine ⟨h1, Or.inl ⟨rfl, ?_, t1, X⟩⟩
        show f_X8_parseCommand_L4 (FU + 1) h 121 (w a) (w fu) (w i) = _
        simp only [f_X8_parseCommand_L4, if_neg n12, tmpl_ok i i12, gb, d1, z, if_neg (show ¬ (true = false) by decide), M1.gd, d2, Option.bind_some]
      · have z' : (mT (t0 0) L (tp i) a []).1 = false := by simpa using z
        have ep : pcl (t0 0) L a (d + 1) i fu = pcl (t0 0) L a d (i + 1) (max fu (mT (t0 0) L (tp i) a []).2.1) := if_neg z
        have gl : (mT (t0 0) L (tp i) a []).2.1 ≤ L := by
          have key : ∀ (r : List Nat) (a : Nat) (vs : List Int32), (∀ c, c ∈ r → c < 128) → a ≤ L → (mT (t0 0) L r a vs).2.1 ≤ L := by
            intro r
            induction r with
            | nil => intro a vs _ ha; exact ha
            | cons c r ih2 =>
              intro a vs hr ha
              unfold mT
              have hm := mP_leL (s := t0 0) (vs := vs) (hr c List.mem_cons_self) ha
              by_cases y : (mP (t0 0) L c a vs).1 = true
              · rw [if_pos y]; exact ih2 _ _ (fun c hc => hr c (List.mem_cons_of_mem _ hc)) hm
              · rw [if_neg y]; exact hm
          exact key _ _ _ t4' ha
        obtain ⟨h1, X⟩ := ih (i + 1) (max fu (mT (t0 0) L (tp i) a []).2.1) FU p1 (by omega) (by omega) M1.b (by omega)
        have es : f_X8_parseCommand_L4 (FU + 1) h 121 (w a) (w fu) (w i) = f_X8_parseCommand_L4 FU p1 121 (w a) (w (max fu (mT (t0 0) L (tp i) a []).2.1)) (w (i + 1)) := by
          simp only [f_X8_parseCommand_L4, if_neg n12, tmpl_ok i i12, gb, d1, z', if_true, txm_i8 M1, max_ww (n := fu) (m := (mT (t0 0) L (tp i) a []).2.1) (by omega) (by omega), w_succ, Option.bind_some]
        rw [ep, es]
        exact ⟨h1, X⟩
/-- one command -/
theorem pcmd_ok (S : ∀ i, i < 12 → ∀ h', fr (txW 121) h0 h' → StrC h' (22 + 2 * i) (tp i)) (hL : t0 1 0 = w L) (h60 : L ≤ 60) (ha : a ≤ L) (h3 : t0 3 0 = w nc) (hn : nc < 15) (M : TxB h0 h t0) : ∃ h1 t1, f_X8_parseCommand h 121 (w a) = some ((pC (t0 0) L a).1, h1) ∧ (((pC (t0 0) L a).1 = true ∧ TxF h0 h1 t0 t1 nc (pC (t0 0) L a).2.1 (pC (t0 0) L a).2.2.1 (pC (t0 0) L a).2.2.2) ∨ ((pC (t0 0) L a).1 = false ∧ TxN h0 h1 t0 t1 (pC (t0 0) L a).2.1)) := by
  obtain ⟨p1, X⟩ := pcmd_loop S hL h60 ha h3 hn 12 0 a FV h (by decide) (by rw [FV_eq]; decide) M ha
  rcases X with ⟨x1, x2, t1, x3⟩ | ⟨x1, x2, x3, x4⟩
  · refine ⟨p1, t1, ?_, Or.inl ⟨x1, x3⟩⟩
    have x1' : (pC (t0 0) L a).1 = true := x1
    have x2' : f_X8_parseCommand_L4 FV h 121 (w a) (w a) (0 : Int32) = some (Sum.inl (true, p1)) := x2
    unfold f_X8_parseCommand
    rw [x2', x1']
    rfl
  · obtain ⟨t, T, e, F⟩ := x3
    obtain ⟨p2, d2, T2, F2⟩ := T.w2 (w (pcl (t0 0) L a 12 0 a).2.1)
    refine ⟨p2, _, ?_, Or.inr ⟨x1, T2, F.trans F2, e 0 (by decide) (by decide) (by decide), e 1 (by decide) (by decide) (by decide), rfl⟩⟩
    have x1' : (pC (t0 0) L a).1 = false := x1
    have x2' : f_X8_parseCommand_L4 FV h 121 (w a) (w a) (0 : Int32) = some (Sum.inr (w (pcl (t0 0) L a 12 0 a).2.1, p1)) := x2
    unfold f_X8_parseCommand
    rw [x2', x1']
    show ((wr p1 121 10 2 _).bind _) = _
    rw [d2]
    rfl
end PARSE
