/-! landing: the reference -/
section MLAND2
variable {B : Nat} {g : GS} {h h1 : PH} {a m k p : Nat} {e : CS}
theorem mof (M : MoC h m e) (hk : k < 10) {j : Nat} (hj : j < 4) : f_X10_of h m (w k) (w j) = some (e 0 (44 + 4 * k + j)) := by
  unfold f_X10_of
  simp only [M.r0, Option.bind_some, of_ix, M.a0 (show 44 + 4 * k + j < 99 by omega)]
theorem mput (M : MoC h m (setR e 0 g)) {i : Nat} (x : Int32) (hi : i < 99) : ∃ h1, asI .int h (m + 1) (w i) x = some h1 ∧ MoC h1 m (setR e 0 (upd g i x)) ∧ fr (mW m) h h1 := by
  obtain ⟨h1, e1, M1, F1⟩ := M.s0 (k := i) x hi
  rw [setR_0, setR_2] at M1
  exact ⟨h1, e1, M1, F1⟩
theorem mlays (M : MoC h m (setR e 0 g)) {k j : Nat} (x : Int32) (hk : k < 10) (hj : j < 4) : ∃ h1, f_X10_lays h m (w k) (w j) x = some h1 ∧ MoC h1 m (setR e 0 (upd g (44 + 4 * k + j) x)) ∧ fr (mW m) h h1 := by
  obtain ⟨h1, e1, M1, F1⟩ := mput M (i := 44 + 4 * k + j) x (by omega)
  refine ⟨h1, ?_, M1, F1⟩
  unfold f_X10_lays
  simp only [M.r0, Option.bind_some, of_ix, e1]
/-- the row of the reference's loop: the sums of landed and returned notes come later -/
noncomputable def eLm (g : GS) (n : Nat) : GS := upd (upd (eLa g n) 6 (g 6)) 7 (g 7)
theorem eLm_ne {n i : Nat} (h6 : i ≠ 6) (h7 : i ≠ 7) : eLm g n i = eLa g n i := by unfold eLm; rw [upd_ne h7, upd_ne h6]
theorem upd_id (g : GS) (i : Nat) : upd g i (g i) = g := by
  funext j
  unfold upd
  by_cases c : j = i
  · rw [if_pos c, c]
  · rw [if_neg c]
theorem eLm_0 : eLm g 0 = g := by
  show upd (upd g 6 (g 6)) 7 (g 7) = g
  rw [upd_id, upd_id]
theorem eLm_in {n : Nat} (c : (gA g).testBit n = true) : eLm g (n + 1) = upd (upd (eLm g n) (46 + 4 * n) (w 2)) (32 + gP g n) (w (gL (eLa g n) (gP g n) + gT g n)) := by
  have e1 : eLa g (n + 1) = eFu (eW2 (eLa g n) n) (gP g n) (gL (eLa g n) (gP g n) + gT g n) := if_pos c
  funext i
  unfold eLm
  rw [e1]
  unfold eFu eW2 upd
  by_cases c7 : i = 7
  · rw [if_pos c7, if_neg (by omega), if_neg (by omega), if_pos c7]
  · rw [if_neg c7]
    by_cases c6 : i = 6
    · rw [if_pos c6, if_neg (by omega), if_neg (by omega), if_neg c7, if_pos c6]
    · rw [if_neg c6, if_neg c6, if_neg c7, if_neg c6]
theorem eLm_out {n : Nat} (c : ¬ (gA g).testBit n = true) (d : gH g n = 1) : eLm g (n + 1) = upd (eLm g n) (46 + 4 * n) 0 := by
  have e1 : eLa g (n + 1) = eFree (eLa g n) n := (if_neg c).trans (if_pos d)
  funext i
  unfold eLm
  rw [e1]
  unfold eFree upd
  by_cases c7 : i = 7
  · rw [if_pos c7, if_neg (by omega), if_pos c7]
  · rw [if_neg c7, if_neg c7, if_neg c7]
    by_cases c6 : i = 6
    · rw [if_pos c6, if_neg (by omega), if_pos c6]
    · rw [if_neg c6, if_neg c6]
theorem eLm_no {n : Nat} (c : ¬ (gA g).testBit n = true) (d : ¬ gH g n = 1) : eLm g (n + 1) = eLm g n := by
  have e1 : eLa g (n + 1) = eLa g n := (if_neg c).trans (if_neg d)
  unfold eLm
  rw [e1]
theorem eLa_in {n : Nat} (c : (gA g).testBit n = true) : eLa g (n + 1) = eFu (eW2 (eLa g n) n) (gP g n) (gL (eLa g n) (gP g n) + gT g n) := if_pos c
theorem eLa_out {n : Nat} (c : ¬ (gA g).testBit n = true) (d : gH g n = 1) : eLa g (n + 1) = eFree (eLa g n) n := (if_neg c).trans (if_pos d)
theorem eLa_no {n : Nat} (c : ¬ (gA g).testBit n = true) (d : ¬ gH g n = 1) : eLa g (n + 1) = eLa g n := (if_neg c).trans (if_neg d)
theorem cn_s (P : Nat → Bool) (n : Nat) : cn P (n + 1) = cn P n + (P n).toNat := rfl
theorem eLa_6 : ∀ n, eLa g n 6 = g 6 + w (cn (fun k => (gA g).testBit k) n) := by
  intro n
  induction n with
  | zero => exact (Int32.add_zero _).symm
  | succ n ih =>
    rw [cn_s]
    by_cases c : (gA g).testBit n = true
    · rw [eLa_in c, c]
      unfold eFu eW2
      rw [upd_ne (by omega), upd_eq, ih, Int32.add_assoc, w_succ]; rfl
    · have c' : (gA g).testBit n = false := by simpa using c
      rw [c']
      by_cases d : gH g n = 1
      · rw [eLa_out c d]
        unfold eFree
        rw [upd_ne (by omega), upd_ne (by omega), ih]; rfl
      · rw [eLa_no c d, ih]; rfl
theorem eLa_7 : ∀ n, eLa g n 7 = g 7 + w (cn (fun k => decide (gH g k = 1) && !(gA g).testBit k) n) := by
  intro n
  induction n with
  | zero => exact (Int32.add_zero _).symm
  | succ n ih =>
    rw [cn_s]
    by_cases c : (gA g).testBit n = true
    · rw [eLa_in c, c]
      unfold eFu eW2
      rw [upd_ne (by omega), upd_ne (by omega), upd_ne (by omega), ih]; simp
    · have c' : (gA g).testBit n = false := by simpa using c
      rw [c']
      by_cases d : gH g n = 1
      · rw [eLa_out c d]
        unfold eFree
        rw [upd_eq, ih, Int32.add_assoc, w_succ]; simp [d]
      · rw [eLa_no c d, ih]; simp [d]
theorem cn_split {P Q : Nat → Bool} {n : Nat} (h : ∀ k, k < n → Q k = true → P k = true) : cn P n = cn Q n + cn (fun k => P k && !Q k) n := by
  induction n with
  | zero => rfl
  | succ n ih =>
    show cn P n + (P n).toNat = cn Q n + (Q n).toNat + (cn (fun k => P k && !Q k) n + (P n && !Q n).toNat)
    rw [ih fun k hk => h k (by omega)]
    have := h n (by omega)
    cases a : P n <;> cases b : Q n <;> simp_all <;> omega
theorem pop_cn {S n : Nat} (hn : n ≤ 12) (h : S < 2 ^ n) : pop S = cn (fun k => S.testBit k) n := by
  unfold pop
  exact cn_none hn fun k h1 _ => low_no h h1
theorem pop_rest (J : JB g) (O : Ok B g) : pop (gs g 1) = pop (gA g) + cn (fun k => decide (gH g k = 1) && !(gA g).testBit k) (gN g) := by
  have hn := O.n
  have e1 : pop (gs g 1) = cn (fun k => gH g k == 1) (gN g) := pop_mk (by omega)
  rw [e1, pop_cn (by omega) (gA_lt J), cn_split (Q := fun k => (gA g).testBit k) (fun k _ hb => by
    have := (gA_held J hb).2
    rw [this]; rfl)]
  congr 1
theorem eLm_last (J : JB g) (O : Ok B g) : upd (upd (upd (eLm g (gN g)) 6 (g 6 + w (pop (gA g)))) 7 (g 7 + (w (pop (gs g 1)) - w (pop (gA g))))) 4 (g 4 + (2 : Int32) * w (gW g (gA g))) = eLand g := by
  have hn := O.n
  have r := pop_rest J O
  have r1 := pop_cn (by omega) (gA_lt J)
  have a6 := eLa_6 (g := g) (gN g)
  have a7 := eLa_7 (g := g) (gN g)
  rw [← r1] at a6
  have es : w (pop (gs g 1)) - w (pop (gA g)) = w (cn (fun k => decide (gH g k = 1) && !(gA g).testBit k) (gN g)) := by
    rw [w_sub (by omega), r]; congr 1; omega
  rw [es, ← a6, ← a7]
  unfold eLand
  congr 1
  funext i
  unfold eLm upd
  by_cases c7 : i = 7
  · rw [if_pos c7, c7]
  · rw [if_neg c7, if_neg c7]
    by_cases c6 : i = 6
    · rw [if_pos c6, c6]
    · rw [if_neg c6, if_neg c6]
theorem mland_loop (H : Mr B h m e g) (J : JB g) : ∃ h1, f_X10_land_L41 FV h m (w (gs g 1)) (w (gA g)) (0 : Int32) = some h1 ∧ MoC h1 m (setR e 0 (eLm g (gN g))) ∧ fr (mW m) h h1 := by
  have O := H.1
  have hn := O.n
  have hA := gA_small J O
  have hG := gs_lt O 1
  obtain ⟨h1, e1, M1, F1⟩ := sloop0 (fun fu k (q : PH) => f_X10_land_L41 fu q m (w (gs g 1)) (w (gA g)) (w k)) id (gN g) (fun k q => MoC q m (setR e 0 (eLm g k)) ∧ fr (mW m) h q) (by omega) (fun fu k q hk hI => by
    obtain ⟨M, F⟩ := hI
    obtain ⟨q1, q2, q3⟩ := eLa_self O (n := k) (k := k) (by omega) (Nat.le_refl _) (by omega)
    have Ok' := eLa_ok J O k (by omega)
    have n0 : alI .int q (m + 1) (0 : Int32) = some (w (gN g)) := by
      have := M.a0 (k := 0) (by decide)
      rw [setR_0, eLm_ne (by omega) (by omega), eLa_far O (by omega) (fun j _ => by omega) (by omega) (by omega) (by omega), O.g0] at this
      exact this
    have hp := (O.note hk).2.1
    have bh : (gs g 1).testBit k = decide (gH g k = 1) := by
      unfold gs
      rw [mk_bit]
      by_cases d : gH g k = 1 <;> simp [hk, d]
    have w1 := w_bit (S := gs g 1) (k := k) (by omega) (by omega)
    have w2 := w_bit (S := gA g) (k := k) (by omega) (by omega)
    by_cases d : gH g k = 1
    · have dh : (gs g 1).testBit k = true := by rw [bh]; simpa using d
      rw [dh] at w1
      by_cases c : (gA g).testBit k = true
      · rw [c] at w2
        obtain ⟨x1, f1, M1, F1⟩ := mlays M (k := k) (j := 2) (w 2) (by omega) (by decide)
        have i46 : 44 + 4 * k + 2 = 46 + 4 * k := by omega
        rw [i46] at M1
        have f1' : f_X10_lays q m (w k) (2 : Int32) (2 : Int32) = some x1 := f1
        have p0 : f_X10_of x1 m (w k) (0 : Int32) = some (w (gP g k)) := by
          have := mof M1 (k := k) (by omega) (j := 0) (by decide)
          rw [setR_0, upd_ne (by omega), eLm_ne (by omega) (by omega)] at this
          exact this.trans (congrArg some ((eLa_far O (by omega) (fun j _ => by omega) (by omega) (by omega) (by omega)).trans (O.note hk).1))
        have p1 : f_X10_of x1 m (w k) (1 : Int32) = some (w (gT g k)) := by
          have := mof M1 (k := k) (by omega) (j := 1) (by decide)
          rw [setR_0, upd_ne (by omega), eLm_ne (by omega) (by omega), show 44 + 4 * k + 1 = 45 + 4 * k by omega] at this
          exact this.trans (congrArg some ((eLa_far O (by omega) (fun j _ => by omega) (by omega) (by omega) (by omega)).trans (O.note hk).2.2.1))
        have p32 : alI .int x1 (m + 1) ((32 : Int32) + w (gP g k)) = some (w (gL (eLa g k) (gP g k))) := by
          show alI .int x1 (m + 1) (w 32 + w (gP g k)) = _
          have := M1.a0 (k := 32 + gP g k) (by omega)
          rw [setR_0, upd_ne (by omega), eLm_ne (by omega) (by omega), ((eLa_ok J O k (by omega)).page hp).2.2.2.1] at this
          rw [w_add]; exact this
        obtain ⟨x2, f2, M2, F2⟩ := mput M1 (i := 32 + gP g k) (w (gL (eLa g k) (gP g k) + gT g k)) (by omega)
        refine ⟨x2, ?_, ?_, (F.trans F1).trans F2⟩
        · have f2' : asI .int x1 (m + 1) ((32 : Int32) + w (gP g k)) (w (gL (eLa g k) (gP g k) + gT g k)) = some x2 := by
            show asI .int x1 (m + 1) (w 32 + w (gP g k)) _ = _
            rw [w_add]; exact f2
          show f_X10_land_L41 (fu + 1) q m (w (gs g 1)) (w (gA g)) (w k) = f_X10_land_L41 fu x2 m (w (gs g 1)) (w (gA g)) (w (k + 1))
          simp only [f_X10_land_L41, M.r0, n0, Option.bind_some, if_neg (is_lt hk (by omega)), w1, w2, M.gd, f1', M1.r0, M1.gd, p0, p1, p32, w_add, f2', w_succ]
          rfl
        · show MoC x2 m (setR e 0 (eLm g (k + 1)))
          rw [eLm_in c]; exact M2
      · have c' : (gA g).testBit k = false := by simpa using c
        rw [c'] at w2
        obtain ⟨x1, f1, M1, F1⟩ := mlays M (k := k) (j := 2) 0 (by omega) (by decide)
        rw [show 44 + 4 * k + 2 = 46 + 4 * k by omega] at M1
        have f1' : f_X10_lays q m (w k) (2 : Int32) (0 : Int32) = some x1 := f1
        refine ⟨x1, ?_, ?_, F.trans F1⟩
        · show f_X10_land_L41 (fu + 1) q m (w (gs g 1)) (w (gA g)) (w k) = f_X10_land_L41 fu x1 m (w (gs g 1)) (w (gA g)) (w (k + 1))
          simp only [f_X10_land_L41, M.r0, n0, Option.bind_some, if_neg (is_lt hk (by omega)), w1, w2, M.gd, f1', w_succ]
          rfl
        · show MoC x1 m (setR e 0 (eLm g (k + 1)))
          rw [eLm_out c d]; exact M1
    · have dh : (gs g 1).testBit k = false := by rw [bh]; simpa using d
      rw [dh] at w1
      have c : ¬ (gA g).testBit k = true := fun z => d (gA_held J z).2
      refine ⟨q, ?_, ?_, F⟩
      · show f_X10_land_L41 (fu + 1) q m (w (gs g 1)) (w (gA g)) (w k) = f_X10_land_L41 fu q m (w (gs g 1)) (w (gA g)) (w (k + 1))
        simp only [f_X10_land_L41, M.r0, n0, Option.bind_some, if_neg (is_lt hk (by omega)), w1, w_succ]
        rfl
      · show MoC q m (setR e 0 (eLm g (k + 1)))
        rw [eLm_no c d]; exact M) (fun fu q hI => by
    have n0 : alI .int q (m + 1) (0 : Int32) = some (w (gN g)) := by
      have := hI.1.a0 (k := 0) (by decide)
      rw [setR_0, eLm_ne (by omega) (by omega), eLa_far O (Nat.le_refl _) (fun j _ => by omega) (by omega) (by omega) (by omega), O.g0] at this
      exact this
    show f_X10_land_L41 (fu + 1) q m (w (gs g 1)) (w (gA g)) (w (gN g)) = some q
    simp only [f_X10_land_L41, hI.1.r0, n0, Option.bind_some, if_pos is_ge]) (k := 0) (s := h) (Nat.zero_le _) ⟨by rw [eLm_0]; exact H.2, fr.refl _ _⟩
  exact ⟨h1, e1, M1, F1⟩
theorem JB.of (H : Mg B h m g) : JB g := fun _ hp => (mchoose H hp).2
end MLAND2
