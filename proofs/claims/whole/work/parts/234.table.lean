/-! the table of what is reached, circles by it: the class -/
section TABLE
variable {B : Nat} {g : GS} {h h1 : PH} {a c k i j : Nat} {z : CS}
def wst (r : Nat → Nat) (m : Nat) : Nat → Nat := fun x => if (r x).testBit m = true then r x ||| r m else r x
def wsts (r : Nat → Nat) : Nat → Nat → Nat
  | 0 => r
  | m + 1 => wst (wsts r m) m
theorem wst_bit (r : Nat → Nat) (m x j : Nat) : (wst r m x).testBit j = true ↔ (r x).testBit j = true ∨ ((r x).testBit m = true ∧ (r m).testBit j = true) := by
  unfold wst
  by_cases q : (r x).testBit m = true
  · rw [if_pos q, Nat.testBit_or, Bool.or_eq_true]
    constructor
    · rintro (y | y)
      · exact Or.inl y
      · exact Or.inr ⟨q, y⟩
    · rintro (y | y)
      · exact Or.inl y
      · exact Or.inr y.2
  · rw [if_neg q]
    constructor
    · exact Or.inl
    · rintro (y | y)
      · exact y
      · exact absurd y.1 q
theorem wst_mid (r : Nat → Nat) (m : Nat) : wst r m m = r m := by
  unfold wst
  by_cases q : (r m).testBit m = true
  · rw [if_pos q, Nat.or_self]
  · rw [if_neg q]
theorem wsts_lt (O : Ok B g) : ∀ m, m ≤ gN g → ∀ k, k < gN g → wsts (gU g) m k < 2 ^ gN g := by
  intro m
  induction m with
  | zero => intro _ k hk; exact (O.note hk).2.2.2.2.2.2.2.2.1
  | succ m ih =>
    intro hm k hk
    show wst (wsts (gU g) m) m k < _
    unfold wst
    split
    · exact Nat.or_lt_two_pow (ih (by omega) k hk) (ih (by omega) m (by omega))
    · exact ih (by omega) k hk
theorem wsts_sound : ∀ m, m ≤ gN g → ∀ k, k < gN g → ∀ j, (wsts (gU g) m k).testBit j = true → Rch g k j := by
  intro m
  induction m with
  | zero => intro _ k hk j hj; exact Rch.base ⟨hk, hj⟩
  | succ m ih =>
    intro hm k hk j hj
    rcases (wst_bit _ _ _ _).mp hj with hj | ⟨h1, h2⟩
    · exact ih (by omega) k hk j hj
    · exact (ih (by omega) k hk m h1).trans (ih (by omega) m (by omega) j h2)
theorem wsts_edge : ∀ m, ∀ k j, (gU g k).testBit j = true → (wsts (gU g) m k).testBit j = true := by
  intro m
  induction m with
  | zero => intro k j hj; exact hj
  | succ m ih => intro k j hj; exact (wst_bit _ _ _ _).mpr (Or.inl (ih k j hj))
theorem wsts_trans : ∀ m, ∀ k i j, i < m → (wsts (gU g) m k).testBit i = true → (wsts (gU g) m i).testBit j = true → (wsts (gU g) m k).testBit j = true := by
  intro m
  induction m with
  | zero => intro k i j hi; omega
  | succ m ih =>
    intro k i j hi h1 h2
    have h1 := (wst_bit _ _ _ _).mp h1
    have h2 := (wst_bit _ _ _ _).mp h2
    refine (wst_bit _ _ _ _).mpr ?_
    by_cases e : i = m
    · subst e
      have a1 : (wsts (gU g) i k).testBit i = true := by
        rcases h1 with y | y
        · exact y
        · exact y.1
      have a2 : (wsts (gU g) i i).testBit j = true := by
        rcases h2 with y | y
        · exact y
        · exact y.2
      exact Or.inr ⟨a1, a2⟩
    · have hi' : i < m := by omega
      rcases h1 with y | ⟨y1, y2⟩
      · rcases h2 with x | ⟨x1, x2⟩
        · exact Or.inl (ih k i j hi' y x)
        · exact Or.inr ⟨ih k i m hi' y x1, x2⟩
      · rcases h2 with x | ⟨x1, x2⟩
        · exact Or.inr ⟨y1, ih m i j hi' y2 x⟩
        · exact Or.inr ⟨y1, x2⟩
theorem wsts_all (O : Ok B g) (hk : k < gN g) : wsts (gU g) (gN g) k = gRe g k := Nat.eq_of_testBit_eq fun j => by
  have e : (wsts (gU g) (gN g) k).testBit j = true ↔ (gRe g k).testBit j = true := by
    rw [gRe_iff O hk]
    constructor
    · exact wsts_sound _ (Nat.le_refl _) k hk j
    · intro r
      exact r.ind (S := fun x => (wsts (gU g) (gN g) k).testBit x = true) (fun i e => wsts_edge _ _ _ e.2) (fun i j h1 e => wsts_trans _ k i j e.1 h1 (wsts_edge _ _ _ e.2))
  cases x : (wsts (gU g) (gN g) k).testBit j <;> cases y : (gRe g k).testBit j
  · rfl
  · rw [x, y] at e; exact absurd (e.mpr rfl) (by decide)
  · rw [x, y] at e; exact absurd (e.mp rfl) (by decide)
  · rfl
theorem war_in (H : Sg B h a g) (C : CiC h c z) (hd : ∀ i, i ≤ 10 → ¬ ciW c (a + i)) {m : Nat} (hm : m < gN g) {r : Nat → Nat} (hr : ∀ x, x < gN g → r x < 1024) (I : ∀ x, x < gN g → z 0 x = w (r x)) : ∃ h1 z1, f_X0_fillReached_L27 FV h c a (w m) (0 : Int32) = some h1 ∧ CiC h1 c z1 ∧ (∀ x, x < gN g → z1 0 x = w (wst r m x)) ∧ fr (ciW c) h h1 := by
  have hn := H.ok.n
  obtain ⟨h1, e1, ⟨z1, C1, I1⟩, F1⟩ := sloop0 (fun fu k (q : PH) => f_X0_fillReached_L27 fu q c a (w m) (w k)) id (gN g) (fun k q => (∃ z1, CiC q c z1 ∧ ∀ x, x < gN g → z1 0 x = w (if x < k then wst r m x else r x)) ∧ fr (ciW c) h q) (by omega) (fun fu k q hk hI => by
    obtain ⟨⟨z1, C1, I1⟩, F1⟩ := hI
    have Hq := H.ci F1 hd
    have ik := I1 k hk
    rw [if_neg (by omega)] at ik
    have im := I1 m hm
    have em : (if m < k then wst r m m else r m) = r m := by
      by_cases y : m < k
      · rw [if_pos y, wst_mid]
      · rw [if_neg y]
    rw [em] at im
    have rk := hr k hk
    by_cases y : (r k).testBit m = true
    · have yn : ¬ (r k).testBit m = false := by rw [y]; decide
      obtain ⟨q1, e1, C2, F2⟩ := C1.s0 (k := k) (x := w (r k) ||| w (r m)) (by omega)
      refine ⟨q1, ?_, ⟨_, C2, fun x hx => ?_⟩, F1.trans F2⟩
      · show f_X0_fillReached_L27 (fu + 1) q c a (w m) (w k) = f_X0_fillReached_L27 fu q1 c a (w m) (w (k + 1))
        simp only [f_X0_fillReached_L27, Hq.i0, Option.bind_some, if_neg (is_lt hk (by omega)), C1.r0, C1.a0 (show k < 10 by omega), ik, has_w (show r k < 2147483648 by omega) (show m < 31 by omega), if_neg yn, C1.a0 (show m < 10 by omega), im, e1, w_succ]
      · show upd (z1 0) k _ x = _
        by_cases e : x = k
        · subst e
          rw [upd_eq, if_pos (by omega), w_or]
          unfold wst
          rw [if_pos y]
        · rw [upd_ne e, I1 x hx]
          congr 1
          by_cases d : x < k
          · rw [if_pos d, if_pos (by omega)]
          · rw [if_neg d, if_neg (by omega)]
    · have yn : (r k).testBit m = false := by simpa using y
      refine ⟨q, ?_, ⟨z1, C1, fun x hx => ?_⟩, F1⟩
      · show f_X0_fillReached_L27 (fu + 1) q c a (w m) (w k) = f_X0_fillReached_L27 fu q c a (w m) (w (k + 1))
        simp only [f_X0_fillReached_L27, Hq.i0, Option.bind_some, if_neg (is_lt hk (by omega)), C1.r0, C1.a0 (show k < 10 by omega), ik, has_w (show r k < 2147483648 by omega) (show m < 31 by omega), if_pos yn, w_succ]
      · rw [I1 x hx]
        congr 1
        by_cases e : x = k
        · subst e
          rw [if_neg (by omega), if_pos (by omega)]
          unfold wst
          rw [if_neg y]
        · by_cases d : x < k
          · rw [if_pos d, if_pos (by omega)]
          · rw [if_neg d, if_neg (by omega)]) (fun fu q hI => by
    have Hq := H.ci hI.2 hd
    show f_X0_fillReached_L27 (fu + 1) q c a (w m) (w (gN g)) = some q
    simp only [f_X0_fillReached_L27, Hq.i0, Option.bind_some, if_pos is_ge]) (k := 0) (s := h) (Nat.zero_le _) ⟨⟨z, C, fun x hx => by rw [if_neg (by omega)]; exact I x hx⟩, fr.refl _ _⟩
  exact ⟨h1, z1, e1, C1, fun x hx => by rw [I1 x hx, if_pos hx], F1⟩
theorem fillReached_ok (H : Sg B h a g) (C : CiC h c z) (hd : ∀ i, i ≤ 10 → ¬ ciW c (a + i)) : ∃ h1 z1, f_X0_fillReached h c a = some h1 ∧ CiC h1 c z1 ∧ (∀ k, k < gN g → z1 0 k = w (gRe g k)) ∧ fr (ciW c) h h1 := by
  have O := H.ok
  have hn := O.n
  obtain ⟨-, s, S, R⟩ := id H
  have e0 : cpI .int h (a + 4) (0 : Int32) (c + 1) (0 : Int32) (10 : Int32) = some (h.1, z_up h.2 (c + 1) (.inl (.int, 10, .inl (va_cpy (s 4) (z 0) 0 0 10)))) := cpI_of (k := 10) (Nat.le_trans S.kK (Nat.le_add_right _ _)) (Nat.le_trans C.kK (Nat.le_add_right _ _)) S.c4 C.2.2.2.1 (by decide) (by decide) (by decide) (fun _ _ => rfl)
  have C0 := C.row0 (va_cpy (s 4) (z 0) 0 0 10)
  have F0 : fr (ciW c) h (h.1, z_up h.2 (c + 1) (.inl (.int, 10, .inl (va_cpy (s 4) (z 0) 0 0 10)))) := fr.up ⟨by omega, by omega⟩
  have H0 := H.ci F0 hd
  have I0 : ∀ x, x < gN g → setR z 0 (va_cpy (s 4) (z 0) 0 0 10) 0 x = w (gU g x) := fun x hx => by
    rw [setR_0]
    unfold va_cpy
    rw [if_pos (by omega)]
    simp
    rw [(R.2.2.2.2.2.2.2.1 x hx).2.2.2, (O.note hx).2.2.2.2.2.2.2.1]
  generalize (h.1, z_up h.2 (c + 1) (.inl (.int, 10, .inl (va_cpy (s 4) (z 0) 0 0 10)))) = h0 at *
  obtain ⟨h1, e1, ⟨z1, C1, I1⟩, F1⟩ := sloop0 (fun fu k (q : PH) => f_X0_fillReached_L17 fu q c a (w k)) id (gN g) (fun k q => (∃ z1, CiC q c z1 ∧ ∀ x, x < gN g → z1 0 x = w (wsts (gU g) k x)) ∧ fr (ciW c) h0 q) (by omega) (fun fu k q hk hI => by
    obtain ⟨⟨z1, C1, I1⟩, F1⟩ := hI
    have Hq := H0.ci F1 hd
    obtain ⟨q1, z2, e1, C2, I2, F2⟩ := war_in Hq C1 hd hk (r := wsts (gU g) k) (fun x hx => small10 hn (wsts_lt O k (by omega) x hx)) I1
    refine ⟨q1, ?_, ⟨z2, C2, I2⟩, F1.trans F2⟩
    show f_X0_fillReached_L17 (fu + 1) q c a (w k) = f_X0_fillReached_L17 fu q1 c a (w (k + 1))
    simp only [f_X0_fillReached_L17, Hq.i0, Option.bind_some, if_neg (is_lt hk (by omega)), e1, w_succ]) (fun fu q hI => by
    have Hq := H0.ci hI.2 hd
    show f_X0_fillReached_L17 (fu + 1) q c a (w (gN g)) = some q
    simp only [f_X0_fillReached_L17, Hq.i0, Option.bind_some, if_pos is_ge]) (k := 0) (s := h0) (Nat.zero_le _) ⟨⟨_, C0, I0⟩, fr.refl _ _⟩
  have e1' : f_X0_fillReached_L17 FV h0 c a (0 : Int32) = some h1 := e1
  refine ⟨h1, z1, ?_, C1, fun k hk => by rw [I1 k hk, wsts_all O hk], F0.trans F1⟩
  unfold f_X0_fillReached
  simp only [H.r4, C.r0, Option.bind_some, e0, e1']
theorem leadsTo_ok (H : Sg B h a g) (C : CiC h c z) (hd : ∀ i, i ≤ 10 → ¬ ciW c (a + i)) (hk : k < gN g) (hj : j < gN g) : ∃ h1 z1, f_X0_leadsTo h c a (w k) (w j) = some ((gRe g k).testBit j, h1) ∧ CiC h1 c z1 ∧ fr (ciW c) h h1 := by
  have hn := H.ok.n
  obtain ⟨h1, z1, e1, C1, I1, F1⟩ := fillReached_ok H C hd
  have r1 : gRe g k < 1024 := small10 hn (gRe_lt H.ok hk)
  refine ⟨h1, z1, ?_, C1, F1⟩
  unfold f_X0_leadsTo
  simp only [C.gd, Option.bind_some, e1, C1.r0, C1.a0 (show k < 10 by omega), I1 k hk, has_w (show gRe g k < 2147483648 by omega) (show j < 31 by omega)]
/-- the notes that a note reaches and that reach it -/
def gQc (g : GS) (k : Nat) : Nat := mk (fun j => (gRe g k).testBit j && (gRe g j).testBit k) (gN g)
theorem circleOf_ok (H : Sg B h a g) (C : CiC h c z) (I : ∀ k, k < gN g → z 0 k = w (gRe g k)) (hk : k < gN g) : f_X0_circleOf h c a (w k) = some (w (gQc g k)) := by
  have O := H.ok
  have hn := O.n
  have L := or_loop (fun fu j b => f_X0_circleOf_L5 fu h c a (w k) b (w j)) (gN g) (fun j => (gRe g k).testBit j && (gRe g j).testBit k) (by omega) (fun fu j b hj => by
    have r1 : gRe g k < 1024 := small10 hn (gRe_lt O hk)
    have r2 : gRe g j < 1024 := small10 hn (gRe_lt O hj)
    show f_X0_circleOf_L5 (fu + 1) h c a (w k) b (w j) = f_X0_circleOf_L5 fu h c a (w k) (if ((gRe g k).testBit j && (gRe g j).testBit k) = true then b ||| w (2 ^ j) else b) (w (j + 1))
    simp only [f_X0_circleOf_L5, H.i0, Option.bind_some, if_neg (is_lt hj (by omega)), C.r0, C.a0 (show k < 10 by omega), C.a0 (show j < 10 by omega), I k hk, I j hj, has_w (show gRe g k < 2147483648 by omega) (show j < 31 by omega), has_w (show gRe g j < 2147483648 by omega) (show k < 31 by omega), bit_w (show j < 31 by omega), w_succ]
    by_cases q : (gRe g k).testBit j = true
    · by_cases r : (gRe g j).testBit k = true
      · simp [q, r]
      · simp [q, r]
    · simp [q]) (fun fu b => by
    show f_X0_circleOf_L5 (fu + 1) h c a (w k) b (w (gN g)) = some b
    simp only [f_X0_circleOf_L5, H.i0, Option.bind_some, if_pos is_ge])
  unfold f_X0_circleOf
  show (f_X0_circleOf_L5 FV h c a (w k) (w 0) (w 0)).bind _ = _
  rw [L]
  rfl
theorem gQc_bit (O : Ok B g) (hk : k < gN g) : (gQc g k).testBit j = true ↔ Rch g k j ∧ Rch g j k := by
  unfold gQc
  rw [mk_bit, Bool.and_eq_true, Bool.and_eq_true, gRe_iff O hk]
  constructor
  · rintro ⟨h1, h2, h3⟩
    exact ⟨h2, (gRe_iff O (of_decide_eq_true h1)).mp h3⟩
  · rintro ⟨h1, h2⟩
    have := h1.lt O
    exact ⟨decide_eq_true this, h1, (gRe_iff O this).mpr h2⟩
theorem gQc_lt (k : Nat) : gQc g k < 2 ^ gN g := mk_lt _ _
theorem gQc_self (O : Ok B g) (hk : k < gN g) (hj : (gQc g k).testBit j = true) : (gQc g k).testBit k = true := by
  obtain ⟨h1, h2⟩ := (gQc_bit O hk).mp hj
  exact (gQc_bit O hk).mpr ⟨h1.trans h2, h1.trans h2⟩
theorem gO_eq (k : Nat) : gO g k = 2 ^ k ||| gQc g k := rfl
theorem gO_in (O : Ok B g) (hk : k < gN g) (hs : (gQc g k).testBit k = true) : gO g k = gQc g k := Nat.eq_of_testBit_eq fun j => by
  rw [gO_eq, Nat.testBit_or, Nat.testBit_two_pow]
  by_cases e : k = j
  · subst e; rw [hs]; simp
  · simp [e]
theorem gO_out (O : Ok B g) (hk : k < gN g) (hs : ¬ (gQc g k).testBit k = true) : gQc g k = 0 ∧ gO g k = 2 ^ k := by
  have z : gQc g k = 0 := Nat.eq_of_testBit_eq fun j => by
    rw [Nat.zero_testBit]
    cases y : (gQc g k).testBit j
    · rfl
    · exact absurd (gQc_self O hk y) hs
  exact ⟨z, by rw [gO_eq, z, Nat.or_zero]⟩
theorem cn_pos {p : Nat → Bool} {n i : Nat} (hi : i < n) (h : p i = true) : 1 ≤ cn p n := by
  induction n with
  | zero => omega
  | succ n ih =>
    rw [cn_s]
    by_cases e : i = n
    · subst e; rw [h]; simp
    · have := ih (by omega); omega
theorem cn_two {p : Nat → Bool} {n i j : Nat} (hi : i < n) (hj : j < n) (hij : i ≠ j) (h1 : p i = true) (h2 : p j = true) : 2 ≤ cn p n := by
  induction n with
  | zero => omega
  | succ n ih =>
    rw [cn_s]
    by_cases e : i = n
    · subst e
      have := cn_pos (n := i) (show j < i by omega) h2
      rw [h1]; simp; omega
    · by_cases d : j = n
      · subst d
        have := cn_pos (n := j) (show i < j by omega) h1
        rw [h2]; simp; omega
      · have := ih (by omega) (by omega); omega
theorem pop_pow : ∀ k, k < 10 → pop (2 ^ k) = 1 := by decide +kernel
/-- a note that reaches itself reaches another that reaches it -/
theorem circ_two (O : Ok B g) (hk : k < gN g) (hs : (gQc g k).testBit k = true) : 2 ≤ pop (gQc g k) := by
  have hn := O.n
  obtain ⟨r, -⟩ := (gQc_bit O hk).mp hs
  have key : ∃ i, Ed g k i ∧ (i = k ∨ Rch g i k) := r.ind (S := fun x => ∃ i, Ed g k i ∧ (i = x ∨ Rch g i x)) (fun i e => ⟨i, e, Or.inl rfl⟩) (fun x y hx e => by
    obtain ⟨i, e1, q⟩ := hx
    refine ⟨i, e1, Or.inr ?_⟩
    rcases q with q | q
    · rw [q]; exact Rch.base e
    · exact q.step e)
  obtain ⟨i, e1, q⟩ := key
  have ne := e1.ne O
  have q' : Rch g i k := by
    rcases q with q | q
    · exact absurd q ne
    · exact q
  have hi := e1.lt O
  exact cn_two (i := k) (j := i) (by omega) (by omega) (Ne.symm ne) hs ((gQc_bit O hk).mpr ⟨Rch.base e1, q'⟩)
theorem sizeAround_ok (H : Sg B h a g) (C : CiC h c z) (hd : ∀ i, i ≤ 10 → ¬ ciW c (a + i)) (hk : k < gN g) : ∃ h1 z1, f_X0_sizeAround h c a (w k) = some (w (pop (gO g k)), h1) ∧ CiC h1 c z1 ∧ fr (ciW c) h h1 := by
  have O := H.ok
  have hn := O.n
  obtain ⟨h1, z1, e1, C1, I1, F1⟩ := fillReached_ok H C hd
  have H1 := H.ci F1 hd
  have ce := circleOf_ok H1 C1 I1 hk
  have lt1 : gQc g k < 1024 := small10 hn (gQc_lt k)
  have pl := pop_le (gQc g k)
  refine ⟨h1, z1, ?_, C1, F1⟩
  have em : f_J9_max_7cf53 (1 : Int32) (w (pop (gQc g k))) = w (pop (gO g k)) := by
    have := max_ww (n := 1) (m := pop (gQc g k)) (by decide) (by omega)
    rw [show (1 : Int32) = w 1 from rfl, this]
    congr 1
    by_cases s : (gQc g k).testBit k = true
    · rw [gO_in O hk s]
      have := circ_two O hk s
      omega
    · obtain ⟨y1, y2⟩ := gO_out O hk s
      rw [y1, y2, pop_pow k (by omega)]
      rfl
  unfold f_X0_sizeAround
  simp only [C.gd, C1.gd, Option.bind_some, e1, ce, bitCount_w _ lt1, em]
theorem countByTable_ok (H : Sg B h a g) (C : CiC h c z) (hd : ∀ i, i ≤ 10 → ¬ ciW c (a + i)) : ∃ h1 z1, f_X0_countByTable h c a = some (w (gOc g), h1) ∧ CiC h1 c z1 ∧ fr (ciW c) h h1 := by
  have O := H.ok
  have hn := O.n
  obtain ⟨h1, z1, e1, C1, I1, F1⟩ := fillReached_ok H C hd
  have H1 := H.ci F1 hd
  have L := sum_loop (fun fu k b => f_X0_countByTable_L9 fu h1 c a b (w k)) (gN g) (fun k => (gOf g k).toNat) (by omega) (fun fu k b hk => by
    have lt1 : gQc g k < 1024 := small10 hn (gQc_lt k)
    have ce := circleOf_ok H1 C1 I1 hk
    have h3 : 1 ≤ 2 ^ k := Nat.one_le_two_pow
    have e8 : (w (gQc g k) &&& (f_X9_bit (w k) - (1 : Int32))) = w (gQc g k &&& (2 ^ k - 1)) := by rw [bit_w (by omega), show w (2 ^ k) - (1 : Int32) = w (2 ^ k - 1) from w_sub (b := 1) h3, w_and]
    have h5 : gQc g k &&& (2 ^ k - 1) < 1024 := Nat.lt_of_le_of_lt Nat.and_le_left lt1
    have e3 : (w (gQc g k &&& (2 ^ k - 1)) = (0 : Int32)) = (gQc g k &&& (2 ^ k - 1) = 0) := propext (w_inj (b := 0) (by omega) (by decide))
    have z0 : f_X0_countByTable_L9 fu h1 c a (b + w 0) (w (k + 1)) = f_X0_countByTable_L9 fu h1 c a b (w (k + 1)) := congrArg (fun y => f_X0_countByTable_L9 fu h1 c a y (w (k + 1))) (Int32.add_zero b)
    show f_X0_countByTable_L9 (fu + 1) h1 c a b (w k) = f_X0_countByTable_L9 fu h1 c a (b + w (gOf g k).toNat) (w (k + 1))
    simp only [f_X0_countByTable_L9, H1.i0, Option.bind_some, if_neg (is_lt hk (by omega)), C1.gd, ce, has_w (show gQc g k < 2147483648 by omega) (show k < 31 by omega), e8, e3, w_succ]
    unfold gOf
    by_cases s : (gQc g k).testBit k = true
    · have sn : ¬ (gQc g k).testBit k = false := by rw [s]; decide
      have two := circ_two O hk s
      rw [if_neg sn, gO_in O hk s]
      by_cases y : gQc g k &&& (2 ^ k - 1) = 0
      · rw [if_neg (fun q => q y)]
        have : (decide (1 < pop (gQc g k)) && (gQc g k &&& (2 ^ k - 1) == 0)) = true := by
          rw [Bool.and_eq_true]
          exact ⟨decide_eq_true (by omega), by rw [y]; rfl⟩
        rw [this]; rfl
      · rw [if_pos y]
        have y0 : (gQc g k &&& (2 ^ k - 1) == 0) = false := beq_eq_false_iff_ne.mpr y
        have : (decide (1 < pop (gQc g k)) && (gQc g k &&& (2 ^ k - 1) == 0)) = false := by rw [y0, Bool.and_false]
        rw [this]; exact z0.symm
    · have sn : (gQc g k).testBit k = false := by simpa using s
      obtain ⟨y1, y2⟩ := gO_out O hk s
      rw [if_pos sn, y2, pop_pow k (by omega)]
      exact z0.symm) (fun fu b => by
    show f_X0_countByTable_L9 (fu + 1) h1 c a b (w (gN g)) = some b
    simp only [f_X0_countByTable_L9, H1.i0, Option.bind_some, if_pos is_ge])
  rw [cn_sm] at L
  have L' : f_X0_countByTable_L9 FV h1 c a (0 : Int32) (0 : Int32) = some (w (gOc g)) := L
  refine ⟨h1, z1, ?_, C1, F1⟩
  unfold f_X0_countByTable
  simp only [C.gd, Option.bind_some, e1, L']
end TABLE
