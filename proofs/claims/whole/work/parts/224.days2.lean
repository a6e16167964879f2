/-! a day, and many: the class and the reference -/
section DAYS2
variable {B : Nat} {g : GS} {h : PH} {a m k p : Nat} {s e : CS}
/-- a scalar of the row that no note, page, net or count shows -/
theorem Ok.sc (O : Ok B g) {i : Nat} {x : Int32} (hi : i = 4 ∨ i = 5 ∨ i = 7 ∨ (i = 3 ∧ (x = 0 ∨ x = 1))) : Ok B (upd g i x) := by
  have same : ∀ j, j ≠ i → upd g i x j = g j := fun j hj => upd_ne hj
  refine O.keep (same 0 (by omega)) (same 1 (by omega)) (same 2 (by omega)) ?_ (fun j hj => (O.note hj).same (by unfold gN; rw [same 0 (by omega)]; exact Nat.le_refl _) (fun z hz => same _ (by omega))) (fun q hq => (O.page hq).same (same _ (by omega)) (same _ (by omega)) (same _ (by omega))) (fun j hj => (O.net hj).same (fun z hz => same _ (by omega))) ?_
  · by_cases c : i = 3
    · subst c
      rw [upd_eq]
      rcases hi with hi | hi | hi | hi
      · omega
      · omega
      · omega
      · exact hi.2
    · rw [same 3 (by omega)]; exact O.li
  · rw [same 6 (by omega), O.g6]
    congr 1
    exact cn_ext fun j hj => by unfold gH; rw [same (46 + 4 * j) (by omega)]
theorem Rel.sc (R : Rel s g) {i : Nat} {x : Int32} {s' : CS} (hi : i = 2 ∨ i = 3 ∨ i = 4 ∨ i = 5 ∨ i = 7) (q2 : s' 13 0 = upd g i x 2) (q3 : s' 12 0 = upd g i x 3) (q4 : s' 14 0 = upd g i x 4) (q5 : s' 15 0 = upd g i x 5) (q6 : s' 16 0 = upd g i x 7) (hs : ∀ r, r < 12 → s' r = s r) : Rel s' (upd g i x) := by
  have same : ∀ j, j ≠ i → upd g i x j = g j := fun j hj => upd_ne hj
  have en : gN (upd g i x) = gN g := by unfold gN; rw [same 0 (by omega)]
  have em : gM (upd g i x) = gM g := by unfold gM; rw [same 1 (by omega)]
  obtain ⟨-, -, r3, r4, r5, r6, r7, r8, r9, r10⟩ := id R
  refine R.to en em (by rw [hs 0 (by decide)]) (by rw [hs 8 (by decide)]) (same 0 (by omega)) (same 1 (by omega)) q2 q3 q4 q5 q6 (fun j hj => ?_) (fun q hq => ?_) (fun j hj => ?_)
  · unfold gH
    rw [hs 1 (by decide), hs 2 (by decide), hs 3 (by decide), hs 4 (by decide), same (44 + 4 * j) (by omega), same (45 + 4 * j) (by omega), same (46 + 4 * j) (by omega), same (47 + 4 * j) (by omega)]
    exact r8 j hj
  · rw [hs 5 (by decide), hs 6 (by decide), hs 7 (by decide), same (8 + q) (by omega), same (20 + q) (by omega), same (32 + q) (by omega)]
    exact r9 q hq
  · rw [hs 9 (by decide), hs 10 (by decide), hs 11 (by decide), same (84 + 3 * j) (by omega), same (85 + 3 * j) (by omega), same (86 + 3 * j) (by omega)]
    exact r10 j hj
theorem lic_off (H : Sg B h a g) : ∃ h', wr h a 9 12 (.int (0 : Int32)) = some h' ∧ Sg B h' a (upd g 3 0) ∧ fr (stW a) h h' := by
  obtain ⟨O, s, S, R⟩ := H
  obtain ⟨x1, e1, S1, F1, -⟩ := S.w12 (x := 0) (Or.inl rfl)
  obtain ⟨-, -, r3, r4, r5, r6, r7, -⟩ := id R
  refine ⟨x1, e1, ⟨O.sc (by simp), _, S1, R.sc (by simp) ?_ ?_ ?_ ?_ ?_ (fun r hr => ?_)⟩, F1⟩
  · rw [upd_ne (by omega)]; exact r3
  · exact (upd_eq _ _ _).symm
  · rw [upd_ne (by omega)]; exact r5
  · rw [upd_ne (by omega)]; exact r6
  · rw [upd_ne (by omega)]; exact r7
  · exact if_neg (by omega)
theorem coin_put (H : Sg B h a g) (x : Int32) : ∃ h', wr h a 9 14 (.int x) = some h' ∧ Sg B h' a (upd g 4 x) ∧ fr (stW a) h h' := by
  obtain ⟨O, s, S, R⟩ := H
  obtain ⟨x1, e1, S1, F1, -⟩ := S.w14 (x := x)
  obtain ⟨-, -, r3, r4, r5, r6, r7, -⟩ := id R
  refine ⟨x1, e1, ⟨O.sc (by simp), _, S1, R.sc (by simp) ?_ ?_ ?_ ?_ ?_ (fun r hr => ?_)⟩, F1⟩
  · rw [upd_ne (by omega)]; exact r3
  · rw [upd_ne (by omega)]; exact r4
  · exact (upd_eq _ _ _).symm
  · rw [upd_ne (by omega)]; exact r6
  · rw [upd_ne (by omega)]; exact r7
  · exact if_neg (by omega)
def eD (g : GS) : GS := upd g 2 (w (gD g + 1))
theorem eD_d (hb : gD g + 1 < 2147483648) : gD (eD g) = gD g + 1 := gD_of (upd_eq _ _ _) hb
theorem Ok.day_ok (O : Ok B g) (hb : B + 1 < 1000000000) : Ok (B + 1) (eD g) := by
  have hd := O.d
  have same : ∀ j, j ≠ 2 → eD g j = g j := fun j hj => upd_ne hj
  have ed := eD_d (g := g) (by omega)
  have en : gN (eD g) = gN g := by unfold gN; rw [same 0 (by omega)]
  have em : gM (eD g) = gM g := by unfold gM; rw [same 1 (by omega)]
  refine ⟨hb, ?_, ?_, ?_, ?_, ?_, ?_, ?_, fun j hj => ?_, fun q hq => ?_, fun j hj => ?_, ?_⟩
  · rw [en, same 0 (by omega)]; exact O.g0
  · rw [en]; exact O.n
  · rw [em, same 1 (by omega)]; exact O.g1
  · rw [em]; exact O.m
  · rw [ed]; exact upd_eq _ _ _
  · rw [ed]; omega
  · rw [same 3 (by omega)]; exact O.li
  · rw [en] at hj
    exact (O.note hj).same (by omega) (fun z hz => same _ (by omega))
  · exact (O.page hq).same (same _ (by omega)) (same _ (by omega)) (same _ (by omega))
  · rw [em] at hj
    exact (O.net hj).same (fun z hz => same _ (by omega))
  · rw [en, same 6 (by omega), O.g6]
    congr 1
    exact cn_ext fun j hj => by unfold gH; rw [same (46 + 4 * j) (by omega)]
theorem day_put (H : Sg B h a g) (hb : B + 1 < 1000000000) : ∃ h', wr h a 9 13 (.int (w (gD g) + 1)) = some h' ∧ Sg (B + 1) h' a (eD g) ∧ fr (stW a) h h' := by
  obtain ⟨O, s, S, R⟩ := H
  obtain ⟨x1, e1, S1, F1, -⟩ := S.w13 (x := w (gD g) + 1)
  obtain ⟨-, -, r3, r4, r5, r6, r7, -⟩ := id R
  refine ⟨x1, e1, ⟨O.day_ok hb, _, S1, R.sc (by simp) ?_ ?_ ?_ ?_ ?_ (fun r hr => ?_)⟩, F1⟩
  · rw [upd_eq, ← w_succ]; rfl
  · rw [upd_ne (by omega)]; exact r4
  · rw [upd_ne (by omega)]; exact r5
  · rw [upd_ne (by omega)]; exact r6
  · rw [upd_ne (by omega)]; exact r7
  · exact if_neg (by omega)
/-- what was landed on a page in the season -/
def eFu (g : GS) (p x : Nat) : GS := upd g (32 + p) (w x)
theorem Ok.fu_ok (O : Ok B g) {p x : Nat} (hp : p < 12) (hx : x ≤ 198) : Ok B (eFu g p x) := by
  have same : ∀ i, i ≠ 32 + p → eFu g p x i = g i := fun i hi => upd_ne hi
  refine O.keep (same 0 (by omega)) (same 1 (by omega)) (same 2 (by omega)) (by rw [same 3 (by omega)]; exact O.li) (fun i hi => (O.note hi).same (by unfold gN; rw [same 0 (by omega)]; exact Nat.le_refl _) (fun z hz => same _ (by omega))) (fun r hr => ?_) (fun i hi => (O.net hi).same (fun z hz => same _ (by omega))) ?_
  · by_cases e : r = p
    · subst e
      obtain ⟨q1, q2, q3, q4, q5⟩ := O.page hr
      have e32 : eFu g r x (32 + r) = w x := upd_eq _ _ _
      have eL : gL (eFu g r x) r = x := by unfold gL; rw [e32]; exact nv_w (by omega)
      unfold okPage gQ at *
      rw [eL, same (8 + r) (by omega), same (20 + r) (by omega)]
      exact ⟨q1, q2, q3, e32, hx⟩
    · exact (O.page hr).same (same _ (by omega)) (same _ (by omega)) (same _ (by omega))
  · rw [same 6 (by omega), O.g6]
    congr 1
    exact cn_ext fun i hi => by unfold gH; rw [same (46 + 4 * i) (by omega)]
theorem fu_put (H : Sg B h a g) {p x : Nat} (hp : p < 12) (hx : x ≤ 198) : ∃ h', asI .int h (a + 7) (w p) (w x) = some h' ∧ Sg B h' a (eFu g p x) ∧ fr (stW a) h h' := by
  obtain ⟨O, s, S, R⟩ := H
  obtain ⟨x1, e1, S1, F1⟩ := S.s7 (x := w x) hp
  refine ⟨x1, e1, ⟨O.fu_ok hp hx, _, S1, ?_⟩, F1⟩
  have hn := O.n
  have same : ∀ i, i ≠ 32 + p → eFu g p x i = g i := fun i hi => upd_ne hi
  have en : gN (eFu g p x) = gN g := by unfold gN; rw [same 0 (by omega)]
  have em : gM (eFu g p x) = gM g := by unfold gM; rw [same 1 (by omega)]
  obtain ⟨-, -, r3, r4, r5, r6, r7, r8, r9, r10⟩ := id R
  refine R.to en em rfl rfl (same 0 (by omega)) (same 1 (by omega)) (by rw [same 2 (by omega)]; exact r3) (by rw [same 3 (by omega)]; exact r4) (by rw [same 4 (by omega)]; exact r5) (by rw [same 5 (by omega)]; exact r6) (by rw [same 7 (by omega)]; exact r7) (fun i hi => ?_) (fun q hq => ?_) (fun i hi => ?_)
  · unfold gH
    rw [same (44 + 4 * i) (by omega), same (45 + 4 * i) (by omega), same (46 + 4 * i) (by omega), same (47 + 4 * i) (by omega)]
    exact r8 i hi
  · obtain ⟨z1, z2, z3⟩ := r9 q hq
    show s 5 q = _ ∧ s 6 q = _ ∧ upd (s 7) p (w x) q = _
    rw [same (8 + q) (by omega), same (20 + q) (by omega)]
    refine ⟨z1, z2, ?_⟩
    by_cases e : q = p
    · subst e; rw [upd_eq]; exact (upd_eq _ _ _).symm
    · rw [upd_ne e, same (32 + q) (by omega)]; exact z3
  · rw [same (84 + 3 * i) (by omega), same (85 + 3 * i) (by omega), same (86 + 3 * i) (by omega)]
    exact r10 i hi
def eFz (g : GS) : Nat → GS
  | 0 => g
  | n + 1 => eFu (eFz g n) n 0
theorem eFz_ne {n i : Nat} (h : i < 32 ∨ 44 ≤ i) (hn : n ≤ 12) : eFz g n i = g i := by
  induction n with
  | zero => rfl
  | succ n ih => exact (upd_ne (by omega)).trans (ih (by omega))
theorem eFz_ok (O : Ok B g) : ∀ n, n ≤ 12 → Ok B (eFz g n) := by
  intro n
  induction n with
  | zero => intro _; exact O
  | succ n ih =>
    intro hn
    exact (ih (by omega)).fu_ok (by omega) (by omega)
theorem StC.l7 (H : StC h a s) : alA .int h (a + 7) = some (w 12) := alA_of H.c7
theorem fill_ok (H : Sg B h a g) : ∃ h', f_J7_fill_53178 h (a + 7) (0 : Int32) = some h' ∧ Sg B h' a (eFz g 12) ∧ fr (stW a) h h' := by
  obtain ⟨h1, e1, H1, F1⟩ := sloop0 (fun fu k (q : PH) => f_J7_fill_53178_L5 fu q (a + 7) 0 (w k) (w 12)) id 12 (fun k q => Sg B q a (eFz g k) ∧ fr (stW a) h q) (by decide) (fun fu k q hk hI => by
    obtain ⟨Hq, Fq⟩ := hI
    obtain ⟨q1, eq1, Hq1, Fq1⟩ := fu_put Hq (p := k) (x := 0) hk (by omega)
    refine ⟨q1, ?_, Hq1, Fq.trans Fq1⟩
    have eq1' : asI .int q (a + 7) (w k) (0 : Int32) = some q1 := eq1
    show f_J7_fill_53178_L5 (fu + 1) q (a + 7) 0 (w k) (w 12) = f_J7_fill_53178_L5 fu q1 (a + 7) 0 (w (k + 1)) (w 12)
    simp only [f_J7_fill_53178_L5, if_neg (is_lt hk (by decide)), eq1', Option.bind_some, w_succ]) (fun fu q hI => by
    show f_J7_fill_53178_L5 (fu + 1) q (a + 7) 0 (w 12) (w 12) = some q
    simp only [f_J7_fill_53178_L5, if_pos is_ge]) (k := 0) (s := h) (Nat.zero_le _) ⟨H, fr.refl _ _⟩
  obtain ⟨s, S⟩ := H.st
  refine ⟨h1, ?_, H1, F1⟩
  have e1' : f_J7_fill_53178_L5 FV h (a + 7) (0 : Int32) (0 : Int32) (w 12) = some h1 := e1
  unfold f_J7_fill_53178
  rw [S.l7, Option.bind_some, e1']
  rfl
/-- the season's turn, if it is one -/
def eT (g : GS) : GS := if gS (eD g) = gS g then eD g else eFz (upd (eD g) 3 0) 12
def eGo (g : GS) : GS := if gS (eD g) = 3 then eT g else eMs (eT g) (gN (eT g))
def mvs (g : GS) : Nat := if gS (eD g) = 3 then 0 else cn (mv (eT g)) (gN (eT g))
theorem gS_2 {g' : GS} (h : g' 2 = g 2) : gS g' = gS g := by unfold gS gD; rw [h]
theorem eT_2 : eT g 2 = eD g 2 := by
  unfold eT
  split
  · rfl
  · rw [eFz_ne (Or.inl (by decide)) (by decide), upd_ne (by decide)]
theorem eT_ok (O : Ok B g) (hb : B + 1 < 1000000000) : Ok (B + 1) (eT g) := by
  unfold eT
  split
  · exact O.day_ok hb
  · exact eFz_ok ((O.day_ok hb).sc (by simp)) 12 (by decide)
theorem eGo_ok (O : Ok B g) (hb : B + 1 < 1000000000) : Ok (B + 1) (eGo g) := by
  unfold eGo
  split
  · exact eT_ok O hb
  · exact eMs_ok (eT_ok O hb) _ (Nat.le_refl _)
theorem s_ne {x y : Nat} (hx : x < 4) (hy : y < 4) : (w x = w y) = (x = y) := propext (w_inj (by omega) (by omega))
theorem passDay_ok (H : Sg B h a g) (hb : B + 1 < 1000000000) : ∃ h', f_X1_passDay h a = some (w (mvs g), h') ∧ Sg (B + 1) h' a (eGo g) ∧ fr (stW a) h h' := by
  obtain ⟨h1, e1, H1, F1⟩ := day_put H hb
  have q0 := season_ok H
  have q1 := season_ok H1
  have l0 := gS_lt g
  have l1 := gS_lt (eD g)
  have e3 : (3 : Int32) = w 3 := rfl
  unfold f_X1_passDay
  simp only [H.gd, H1.gd, q0, q1, H.i13, e1, Option.bind_some, s_ne l1 l0]
  by_cases c : gS (eD g) = gS g
  · have eT1 : eT g = eD g := by unfold eT; rw [if_pos c]
    rw [if_pos c]
    by_cases d : gS (eD g) = 3
    · have d' : ¬ ¬ w (gS (eD g)) = (3 : Int32) := fun z => z (by rw [d]; rfl)
      rw [if_neg d']
      refine ⟨h1, by unfold mvs; rw [if_pos d]; rfl, by unfold eGo; rw [if_pos d, eT1]; exact H1, F1⟩
    · have d' : ¬ w (gS (eD g)) = (3 : Int32) := fun z => d (by rw [e3, s_ne l1 (by decide)] at z; exact z)
      rw [if_pos d']
      obtain ⟨h2, e2, H2, F2⟩ := drift_ok H1
      refine ⟨h2, by unfold mvs; rw [if_neg d, e2, eT1]; rfl, by unfold eGo; rw [if_neg d, eT1]; exact H2, F1.trans F2⟩
  · have eT1 : eT g = eFz (upd (eD g) 3 0) 12 := by unfold eT; rw [if_neg c]
    rw [if_neg c]
    obtain ⟨h2, e2, H2, F2⟩ := lic_off H1
    obtain ⟨h3, e4, H3, F3⟩ := fill_ok H2
    have es : gS (eFz (upd (eD g) 3 0) 12) = gS (eD g) := gS_2 (by rw [eFz_ne (Or.inl (by decide)) (by decide), upd_ne (by decide)])
    have q3 := season_ok H3
    rw [es] at q3
    simp only [e2, Option.bind_some, H2.r7, e4, H3.gd, q3]
    by_cases d : gS (eD g) = 3
    · have d' : ¬ ¬ w (gS (eD g)) = (3 : Int32) := fun z => z (by rw [d]; rfl)
      rw [if_neg d']
      refine ⟨h3, by unfold mvs; rw [if_pos d]; rfl, by unfold eGo; rw [if_pos d, eT1]; exact H3, (F1.trans F2).trans F3⟩
    · have d' : ¬ w (gS (eD g)) = (3 : Int32) := fun z => d (by rw [e3, s_ne l1 (by decide)] at z; exact z)
      rw [if_pos d']
      obtain ⟨h4, e5, H4, F4⟩ := drift_ok H3
      refine ⟨h4, by unfold mvs; rw [if_neg d, e5, eT1]; rfl, by unfold eGo; rw [if_neg d, eT1]; exact H4, ((F1.trans F2).trans F3).trans F4⟩
def eGos (g : GS) : Nat → GS
  | 0 => g
  | n + 1 => eGo (eGos g n)
def mvn (g : GS) (n : Nat) : Nat := sm (fun k => mvs (eGos g k)) n
theorem eGos_ok (O : Ok B g) : ∀ n, B + n < 1000000000 → Ok (B + n) (eGos g n) := by
  intro n
  induction n with
  | zero => intro _; exact O
  | succ n ih => intro hb; exact eGo_ok (ih (by omega)) (by omega)
theorem day_lt {n k : Nat} (hk : k < n) (hn : n ≤ 40) : ¬ w n ≤ w k := by
  rw [w_le (by omega) (by omega)]
  omega
theorem passDays_ok (H : Sg B h a g) {n : Nat} (hn : n ≤ 40) (hb : B + n < 1000000000) : ∃ h', f_X1_passDays h a (w n) = some (w (mvn g n), h') ∧ Sg (B + n) h' a (eGos g n) ∧ fr (stW a) h h' := by
  obtain ⟨⟨h1, c1⟩, e1, H1, E1, F1⟩ := sloop0 (fun fu k (q : PH × Int32) => f_X1_passDays_L4 fu q.1 a (w n) q.2 (w k)) (fun q => (q.2, q.1)) n (fun k q => Sg (B + k) q.1 a (eGos g k) ∧ q.2 = w (mvn g k) ∧ fr (stW a) h q.1) (by omega) (fun fu k q hk hI => by
    obtain ⟨Hq, Eq, Fq⟩ := hI
    obtain ⟨q1, eq1, Hq1, Fq1⟩ := passDay_ok Hq (by omega)
    refine ⟨(q1, w (mvn g (k + 1))), ?_, Hq1, rfl, Fq.trans Fq1⟩
    show f_X1_passDays_L4 (fu + 1) q.1 a (w n) q.2 (w k) = f_X1_passDays_L4 fu q1 a (w n) (w (mvn g (k + 1))) (w (k + 1))
    simp only [f_X1_passDays_L4, if_neg (day_lt hk hn), eq1, Option.bind_some, w_succ]
    rw [Eq, w_add]; rfl) (fun fu q hI => by
    show f_X1_passDays_L4 (fu + 1) q.1 a (w n) q.2 (w n) = some (q.2, q.1)
    simp only [f_X1_passDays_L4, if_pos is_ge]) (k := 0) (s := (h, w 0)) (Nat.zero_le _) ⟨H, rfl, fr.refl _ _⟩
  have e1' : f_X1_passDays_L4 FV h a (w n) (0 : Int32) (0 : Int32) = some (c1, h1) := e1
  have E1 : c1 = w (mvn g n) := E1
  refine ⟨h1, ?_, H1, F1⟩
  unfold f_X1_passDays
  rw [e1', E1]; rfl
end DAYS2
