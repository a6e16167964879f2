/-! THE CLASS'S PARSER: a whole text -/
section PARSE2
variable {h h0 h1 : PH} {t0 t t1 : CS} {a c d i k n L nc : Nat} {vs : List Int32} {l pre : List (Nat × List Int32)} {s s' : Nat → Int32}
/-- a whole text, purely: does it match; its end or its fault; its commands -/
def pA (s : Nat → Int32) (L : Nat) : Nat → Nat → Bool × Nat × List (Nat × List Int32)
  | 0, _ => (false, L, [])
  | d + 1, a => if (pC s L a).1 = true then (if (pC s L a).2.1 = L then (true, L, [(pC s L a).2.2]) else if s (pC s L a).2.1 = 59 then ((pA s L d ((pC s L a).2.1 + 1)).1, (pA s L d ((pC s L a).2.1 + 1)).2.1, (pC s L a).2.2 :: (pA s L d ((pC s L a).2.1 + 1)).2.2) else (false, (pC s L a).2.1, [])) else (false, (pC s L a).2.1, [])
/-- a command that matches: its kind, its length, its end -/
theorem pC_yes (ha : a ≤ L) (h : (pC s L a).1 = true) : (pC s L a).2.2.1 < 12 ∧ a + 4 ≤ (pC s L a).2.1 ∧ (pC s L a).2.1 ≤ L ∧ (mT s L (tp (pC s L a).2.2.1) a []).1 = true ∧ (pC s L a).2.2.2 = (mT s L (tp (pC s L a).2.2.1) a []).2.2 := by
  have key : ∀ d i fu, i + d = 12 → (pcl s L a d i fu).1 = true → (pcl s L a d i fu).2.2.1 < 12 ∧ (pcl s L a d i fu).2.1 = (mT s L (tp (pcl s L a d i fu).2.2.1) a []).2.1 ∧ (mT s L (tp (pcl s L a d i fu).2.2.1) a []).1 = true ∧ (pcl s L a d i fu).2.2.2 = (mT s L (tp (pcl s L a d i fu).2.2.1) a []).2.2 := by
    intro d
    induction d with
    | zero => intro i fu _ z; exact absurd z (by show ¬ false = true; decide)
    | succ d ih =>
      intro i fu hi z
      unfold pcl at z ⊢
      by_cases y : (mT s L (tp i) a []).1 = true
      · rw [if_pos y]
        exact ⟨by show i < 12; omega, rfl, y, rfl⟩
      · rw [if_neg y] at z ⊢
        exact ih (i + 1) _ (by omega) z
  obtain ⟨k1, k2, k3, k4⟩ := key 12 0 a rfl h
  have k1' : (pC s L a).2.2.1 < 12 := k1
  obtain ⟨-, t2, t3, t4⟩ := tp_ok _ k1'
  have g := (mT_ge s L (tp (pC s L a).2.2.1) a []).2 k3
  have q := mT_le (s := s) (L := L) (tp (pC s L a).2.2.1) a [] t4 ha k3
  have k2' : (pC s L a).2.1 = (mT s L (tp (pC s L a).2.2.1) a []).2.1 := k2
  exact ⟨k1, by omega, by omega, k3, k4⟩
/-- the commands on the text object -/
def Cm (t : CS) (l : List (Nat × List Int32)) : Prop := t 3 0 = w l.length ∧ ∀ i, i < l.length → t 4 i = w (l.getD i (0, [])).1 ∧ t 5 i = (l.getD i (0, [])).2.getD 0 0 ∧ t 6 i = (l.getD i (0, [])).2.getD 1 0 ∧ t 7 i = (l.getD i (0, [])).2.getD 2 0
theorem getD_app1 {α : Type} (l : List α) (x d : α) : (l ++ [x]).getD l.length d = x := by simp
theorem getD_app0 {α : Type} (l : List α) (x d : α) {i : Nat} (hi : i < l.length) : (l ++ [x]).getD i d = l.getD i d := by
  simp [List.getElem?_append_left hi]
theorem Cm.add (C : Cm t l) (hn : l.length = nc) {at1 : Nat} (X : TxF h0 h1 t t1 nc at1 k vs) : Cm t1 (l ++ [(k, vs)]) := by
  obtain ⟨x1, x2, x3, x4, x5, x6, x7, x8, x9, x10, x11⟩ := X
  obtain ⟨c1, c2⟩ := C
  subst hn
  refine ⟨by rw [x6, List.length_append]; rfl, fun i hi => ?_⟩
  rw [List.length_append] at hi
  have hi : i < l.length + 1 := hi
  rw [x7, x8, x9, x10]
  by_cases z : i = l.length
  · subst z
    rw [getD_app1, upd_eq, upd_eq, upd_eq, upd_eq]
    exact ⟨rfl, rfl, rfl, rfl⟩
  · rw [getD_app0 l _ _ (by omega), upd_ne z, upd_ne z, upd_ne z, upd_ne z]
    exact c2 i (by omega)
theorem parse_loop (S : ∀ i, i < 12 → ∀ h', fr (txW 121) h0 h' → StrC h' (22 + 2 * i) (tp i)) (h60 : L ≤ 60) : ∀ d i fu a (pre : List (Nat × List Int32)) (t : CS) (h : PH), i + d = 15 → d < fu → a ≤ L → 5 * i ≤ a → pre.length = i → TxC h 121 t → fr (txW 121) h0 h → t 0 = s → t 1 0 = w L → Cm t pre → ∃ h1 t1, f_X8_parse_L9 fu h 121 (w a) (w i) = some (Sum.inl ((pA s L d a).1, h1)) ∧ TxC h1 121 t1 ∧ fr (txW 121) h0 h1 ∧ t1 0 = s ∧ t1 1 0 = w L ∧ ((pA s L d a).1 = true → t1 2 = t 2 ∧ Cm t1 (pre ++ (pA s L d a).2.2)) ∧ ((pA s L d a).1 = false → t1 2 0 = w (pA s L d a).2.1) := by
  intro d
  induction d with
  | zero => intro i fu a pre t h hi _ ha h5; omega
  | succ d ih =>
    intro i fu a pre t h hi hf ha h5 hp T F hs hL C
    cases fu with
    | zero => exact absurd hf (Nat.not_lt_zero _)
    | succ fu =>
      have n15 : ¬ (15 : Int32) ≤ w i := fun z => by
        have := (w_le (a := 15) (b := i) (by decide) (by omega)).mp z
        omega
      obtain ⟨p1, t1, d1, X⟩ := pcmd_ok (t0 := t) (nc := i) S hL h60 ha (by rw [C.1, hp]) (by omega) ⟨t, T, fun j _ _ _ => rfl, F⟩
      rw [hs] at d1 X
      rcases X with ⟨x1, X⟩ | ⟨x1, X⟩
      · have X' := X
        obtain ⟨y1, y2, y3, y4, y5, y6, y7, y8, y9, y10, y11⟩ := X'
        obtain ⟨q1, q2, q3, -⟩ := pC_yes ha x1
        have C1 := C.add hp X
        have i8 : rdI p1 121 10 8 = some (w (pC s L a).2.1) := by rw [y1.i8, y11]
        have i1 : rdI p1 121 10 1 = some (w L) := by rw [y1.i1, y4, hL]
        have eL : (w (pC s L a).2.1 = w L) = ((pC s L a).2.1 = L) := propext (w_inj (by omega) (by omega))
        by_cases z : (pC s L a).2.1 = L
        · have ep : pA s L (d + 1) a = (true, L, [(pC s L a).2.2]) := by
            unfold pA
            rw [if_pos x1, if_pos z]
          rw [ep]
          refine ⟨p1, t1, ?_, y1, y2, y3.trans hs, (congrFun y4 0).trans hL, fun _ => ⟨y5, C1⟩, fun z => ztt z ⟩
          have nn : ¬ ¬ (pC s L a).2.1 = L := fun y => y z
          simp only [f_X8_parse_L9, if_neg n15, T.gd, d1, x1, if_true, i8, i1, eL, if_neg nn, Option.bind_some]
        · have at1 : alI .char p1 122 (w (pC s L a).2.1) = some (s (pC s L a).2.1) := by
            have := y1.a0 (k := (pC s L a).2.1) (by omega)
            rw [y3, hs] at this
            exact this
          have r0 : rdR p1 121 10 0 = some 122 := y1.r0
          by_cases y : s (pC s L a).2.1 = 59
          · have ep : pA s L (d + 1) a = ((pA s L d ((pC s L a).2.1 + 1)).1, (pA s L d ((pC s L a).2.1 + 1)).2.1, (pC s L a).2.2 :: (pA s L d ((pC s L a).2.1 + 1)).2.2) := by
              show (if (pC s L a).1 = true then _ else _) = _
              rw [if_pos x1, if_neg z, if_pos y]
            obtain ⟨h2, t2, d2, z1, z2, z3, z4, z5, z6⟩ := ih (i + 1) fu ((pC s L a).2.1 + 1) (pre ++ [(pC s L a).2.2]) t1 p1 (by omega) (by omega) (by omega) (by omega) (by rw [List.length_append, hp]; rfl) y1 y2 (y3.trans hs) ((congrFun y4 0).trans hL) C1
            rw [ep]
            refine ⟨h2, t2, ?_, z1, z2, z3, z4, fun q => ?_, z6⟩
            · simp only [f_X8_parse_L9, if_neg n15, T.gd, d1, x1, if_true, i8, i1, eL, if_pos z, r0, at1, if_pos y, w_succ, Option.bind_some]
              exact d2
            · obtain ⟨q1, q2⟩ := z5 q
              refine ⟨q1.trans y5, ?_⟩
              have : pre ++ ((pC s L a).2.2 :: (pA s L d ((pC s L a).2.1 + 1)).2.2) = (pre ++ [(pC s L a).2.2]) ++ (pA s L d ((pC s L a).2.1 + 1)).2.2 := by simp
              rw [this]; exact q2
          · have ep : pA s L (d + 1) a = (false, (pC s L a).2.1, []) := by
              show (if (pC s L a).1 = true then _ else _) = _
              rw [if_pos x1, if_neg z, if_neg y]
            obtain ⟨p2, d2, T2, F2⟩ := y1.w2 (w (pC s L a).2.1)
            rw [ep]
            refine ⟨p2, _, ?_, T2, y2.trans F2, y3.trans hs, (congrFun y4 0).trans hL, fun z => zff z, fun _ => rfl⟩
            simp only [f_X8_parse_L9, if_neg n15, T.gd, d1, x1, if_true, i8, i1, eL, if_pos z, r0, at1, if_neg y, d2, Option.bind_some]
      · have ep : pA s L (d + 1) a = (false, (pC s L a).2.1, []) := by
          show (if (pC s L a).1 = true then _ else _) = _
          rw [if_neg (by rw [x1]; decide)]
        obtain ⟨y1, y2, y3, y4, y5⟩ := X
        rw [ep]
        refine ⟨p1, t1, ?_, y1, y2, y3.trans hs, (congrFun y4 0).trans hL, fun z => zff z, fun _ => y5⟩
        simp only [f_X8_parse_L9, if_neg n15, T.gd, d1, x1, if_neg (show ¬ (false = true) by decide), Option.bind_some]
theorem parse_ok (S : ∀ i, i < 12 → ∀ h', fr (txW 121) h h' → StrC h' (22 + 2 * i) (tp i)) (h60 : L ≤ 60) (T : TxC h 121 t) (hL : t 1 0 = w L) : ∃ h1 t1, f_X8_parse h 121 = some ((pA (t 0) L 15 0).1, h1) ∧ TxC h1 121 t1 ∧ fr (txW 121) h h1 ∧ t1 0 = t 0 ∧ t1 1 0 = w L ∧ ((pA (t 0) L 15 0).1 = true → t1 2 = t 2 ∧ Cm t1 (pA (t 0) L 15 0).2.2) ∧ ((pA (t 0) L 15 0).1 = false → t1 2 0 = w (pA (t 0) L 15 0).2.1) := by
  obtain ⟨p1, d1, T1, F1⟩ := T.w3 0
  obtain ⟨h1, t1, d2, z1, z2, z3, z4, z5, z6⟩ := parse_loop (s := t 0) S h60 15 0 FV 0 [] _ p1 (by decide) (by rw [FV_eq]; decide) (Nat.zero_le _) (by decide) rfl T1 F1 rfl hL ⟨rfl, fun i hi => absurd hi (Nat.not_lt_zero i)⟩
  refine ⟨h1, t1, ?_, z1, z2, z3, z4, z5, z6⟩
  have d1' : wr h 121 10 3 (.int (0 : Int32)) = some p1 := d1
  have d2' : f_X8_parse_L9 FV p1 121 (0 : Int32) (0 : Int32) = some (Sum.inl ((pA (t 0) L 15 0).1, h1)) := d2
  unfold f_X8_parse
  simp only [d1', d2', Option.bind_some]
  rfl
/-- what a text is depends on its characters alone -/
theorem ch_ext (E : ∀ i, i < L → s i = s' i) (a : Nat) : ch s L a = ch s' L a := by
  unfold ch
  by_cases z : a < L
  · rw [if_pos z, if_pos z, E a z]
  · rw [if_neg z, if_neg z]
theorem dgt_ext (E : ∀ i, i < L → s i = s' i) (a : Nat) : dgt s L a = dgt s' L a := by
  unfold dgt
  rw [ch_ext E]
theorem mP_ext (E : ∀ i, i < L → s i = s' i) (c a : Nat) (vs : List Int32) : mP s L c a vs = mP s' L c a vs := by
  have e1 : ∀ a, dgt s' L a = true → dvl s a = dvl s' a := fun a h => by
    unfold dvl
    rw [E a (dgt_lt h)]
  unfold mP
  simp only [ch_ext E, dgt_ext E]
  by_cases z : dgt s' L a = true
  · by_cases y : dgt s' L (a + 1) = true
    · rw [e1 a z, e1 _ y]
    · rw [e1 a z]
      simp only [if_neg y]
  · by_cases y : dgt s' L (a + 1) = true
    · rw [e1 _ y]
      simp only [if_neg z]
    · simp only [if_neg z, if_neg y]
theorem mT_ext (E : ∀ i, i < L → s i = s' i) : ∀ (r : List Nat) (a : Nat) (vs : List Int32), mT s L r a vs = mT s' L r a vs := by
  intro r
  induction r with
  | nil => intro a vs; rfl
  | cons c r ih =>
    intro a vs
    unfold mT
    rw [mP_ext E, ih]
theorem pC_ext (E : ∀ i, i < L → s i = s' i) (a : Nat) : pC s L a = pC s' L a := by
  have key : ∀ d i fu, pcl s L a d i fu = pcl s' L a d i fu := by
    intro d
    induction d with
    | zero => intro i fu; rfl
    | succ d ih =>
      intro i fu
      unfold pcl
      rw [mT_ext E, ih]
  exact key 12 0 a
theorem pA_ext (E : ∀ i, i < L → s i = s' i) : ∀ d a, a ≤ L → pA s L d a = pA s' L d a := by
  intro d
  induction d with
  | zero => intro a _; rfl
  | succ d ih =>
    intro a ha
    unfold pA
    rw [pC_ext E]
    by_cases x : (pC s' L a).1 = true
    · rw [if_pos x, if_pos x]
      obtain ⟨-, -, q3, -⟩ := pC_yes ha x
      by_cases z : (pC s' L a).2.1 = L
      · rw [if_pos z, if_pos z]
      · rw [if_neg z, if_neg z, E _ (by omega), ih _ (by omega)]
    · rw [if_neg x, if_neg x]
end PARSE2
