/-! what the methods of a State answer, by its numbers g -/
section READ
theorem or_loop (F : Nat → Nat → Int32 → Option Int32) (n : Nat) (p : Nat → Bool) (hn : n < 4096) (hs : ∀ fu k b, k < n → F (fu + 1) k b = F fu (k + 1) (if p k = true then b ||| w (2 ^ k) else b)) (he : ∀ fu b, F (fu + 1) n b = some b) : F FV 0 (w 0) = some (w (mk p n)) := by
  refine cnt0 F n (fun k => w (mk p k)) (w (mk p n)) hn (fun fu k hk => ?_) (fun fu => he fu _)
  rw [hs fu k _ hk]
  congr 1
  show _ = w (mk p k ||| _)
  rw [← w_or]
  by_cases c : p k = true
  · rw [if_pos c, if_pos c]
  · rw [if_neg c, if_neg c]
    exact (Int32.or_zero).symm
theorem sum_loop (F : Nat → Nat → Int32 → Option Int32) (n : Nat) (f : Nat → Nat) (hn : n < 4096) (hs : ∀ fu k b, k < n → F (fu + 1) k b = F fu (k + 1) (b + w (f k))) (he : ∀ fu b, F (fu + 1) n b = some b) : F FV 0 (w 0) = some (w (sm f n)) := by
  refine cnt0 F n (fun k => w (sm f k)) (w (sm f n)) hn (fun fu k hk => ?_) (fun fu => he fu _)
  rw [hs fu k _ hk, w_add]
  rfl
theorem cn_sm (p : Nat → Bool) (n : Nat) : sm (fun k => (p k).toNat) n = cn p n := by
  induction n with
  | zero => rfl
  | succ n ih => unfold sm cn; rw [ih]
/-- many sets in one -/
def ors (f : Nat → Nat) : Nat → Nat
  | 0 => 0
  | n + 1 => ors f n ||| f n
theorem ors_loop (F : Nat → Nat → Int32 → Option Int32) (n : Nat) (f : Nat → Nat) (hn : n < 4096) (hs : ∀ fu k b, k < n → F (fu + 1) k b = F fu (k + 1) (b ||| w (f k))) (he : ∀ fu b, F (fu + 1) n b = some b) : F FV 0 (w 0) = some (w (ors f n)) := by
  refine cnt0 F n (fun k => w (ors f k)) (w (ors f n)) hn (fun fu k hk => ?_) (fun fu => he fu _)
  rw [hs fu k _ hk, w_or]
  rfl
theorem ors_bit (f : Nat → Nat) (n j : Nat) : (ors f n).testBit j = true ↔ ∃ k, k < n ∧ (f k).testBit j = true := by
  induction n with
  | zero => simp [ors]
  | succ n ih =>
    unfold ors
    rw [Nat.testBit_or, Bool.or_eq_true, ih]
    constructor
    · rintro (⟨k, h1, h2⟩ | h)
      · exact ⟨k, by omega, h2⟩
      · exact ⟨n, by omega, h⟩
    · rintro ⟨k, h1, h2⟩
      by_cases e : k = n
      · subst e; exact Or.inr h2
      · exact Or.inl ⟨k, by omega, h2⟩
theorem ors_lt {f : Nat → Nat} {n m : Nat} (h : ∀ k, k < n → f k < 2 ^ m) : ors f n < 2 ^ m := by
  induction n with
  | zero => exact Nat.two_pow_pos m
  | succ n ih =>
    unfold ors
    exact Nat.or_lt_two_pow (ih fun k hk => h k (by omega)) (h n (by omega))
theorem small10 {S : Nat} {n : Nat} (hn : n ≤ 10) (h : S < 2 ^ n) : S < 1024 := Nat.lt_of_lt_of_le h (Nat.pow_le_pow_right (n := 2) (by decide) hn)
theorem floorMod_w {x : Nat} (hx : x < 1073741824) : f_J9_floorMod_7cf53 (w x) (4 : Int32) = some (w (x % 4)) := by
  unfold f_J9_floorMod_7cf53
  have e4 : (4 : Int32) = w 4 := rfl
  rw [if_neg (by decide), e4, w_xor]
  have hl : x ^^^ 4 < 2 ^ 30 := Nat.xor_lt_two_pow hx (by decide)
  rw [if_pos (show (0 : Int32) ≤ w (x ^^^ 4) from (w_le (a := 0) (by decide) (by omega)).mpr (Nat.zero_le _)), w_rem (by omega) (by decide)]
theorem max0_w {a b : Nat} (ha : a < 1073741824) (hb : b < 1073741824) : f_J9_max_7cf53 (w a - w b) (0 : Int32) = w (a - b) := by
  unfold f_J9_max_7cf53
  by_cases c : b ≤ a
  · rw [w_sub c]
    by_cases d : a - b = 0
    · rw [d]
      by_cases q : (w 0 : Int32) < 0
      · rw [if_pos q]; rfl
      · rw [if_neg q]
    · rw [if_neg (by show ¬ w (a - b) < w 0; rw [w_lt (by omega) (by decide)]; omega)]
  · have e : w a - w b = Int32.ofInt ((a : Int) - (b : Int)) := by
      show Int32.ofNat a - Int32.ofNat b = _
      rw [← Int32.ofInt_eq_ofNat, ← Int32.ofInt_eq_ofNat, ← Int32.ofInt_sub]
    have h1 : (w a - w b) < 0 := by
      rw [e, Int32.lt_iff_toInt_lt, Int32.toInt_ofInt_of_le (by omega) (by omega)]
      show (a : Int) - b < 0
      omega
    rw [if_pos h1, show a - b = 0 by omega]
    rfl
variable {B : Nat} {g : GS} {h : PH} {a k p : Nat}
theorem is_lt {n k : Nat} (hk : k < n) (hn : n ≤ 12) : ¬ w n ≤ w k := by
  rw [w_le (by omega) (by omega)]
  omega
theorem is_ge {n : Nat} : w n ≤ w n := Int32.le_refl _
/-- is this int a note of g -/
def isN (g : GS) (x : Int32) : Bool := !(decide (x < 0)) && !(decide (w (gN g) ≤ x))
def isM (g : GS) (x : Int32) : Bool := !(decide (x < 0)) && !(decide (w (gM g) ≤ x))
theorem below_of {x : Int32} {n : Nat} (hn : n < 2147483648) (h0 : ¬ x < 0) (h1 : ¬ w n ≤ x) : ∃ k, k < n ∧ x = w k := by
  have h2 : 0 ≤ x := Int32.not_lt.mp h0
  have e : w (x.toNatClampNeg) = x := Int32.ofNat_toNatClampNeg x h2
  have hl := Int32.toNatClampNeg_lt x
  refine ⟨x.toNatClampNeg, ?_, e.symm⟩
  rw [← e, w_le hn (by omega)] at h1
  omega
theorem isN_iff (hn : gN g < 2147483648) {x : Int32} : isN g x = true ↔ ∃ k, k < gN g ∧ x = w k := by
  unfold isN
  constructor
  · intro h
    simp at h
    exact below_of hn (by simpa using h.1) (by simpa using h.2)
  · rintro ⟨k, h1, rfl⟩
    have c1 : ¬ w k < 0 := w_nonneg (by omega)
    have c2 : ¬ w (gN g) ≤ w k := by rw [w_le hn (by omega)]; omega
    simp [c1, c2]
theorem isM_iff (hn : gM g < 2147483648) {x : Int32} : isM g x = true ↔ ∃ k, k < gM g ∧ x = w k := by
  unfold isM
  constructor
  · intro h
    simp at h
    exact below_of hn (by simpa using h.1) (by simpa using h.2)
  · rintro ⟨k, h1, rfl⟩
    have c1 : ¬ w k < 0 := w_nonneg (by omega)
    have c2 : ¬ w (gM g) ≤ w k := by rw [w_le hn (by omega)]; omega
    simp [c1, c2]
theorem hasNote_ok (H : Sg B h a g) (x : Int32) : f_X7_hasNote h a x = some (isN g x) := by
  unfold f_X7_hasNote isN
  by_cases c : x < 0
  · simp [c]
  · simp only [if_neg c, H.i0, Option.bind_some]
    by_cases d : w (gN g) ≤ x <;> simp [c, d]
theorem hasNet_ok (H : Sg B h a g) (x : Int32) : f_X7_hasNet h a x = some (isM g x) := by
  unfold f_X7_hasNet isM
  by_cases c : x < 0
  · simp [c]
  · simp only [if_neg c, H.i8, Option.bind_some]
    by_cases d : w (gM g) ≤ x <;> simp [c, d]
def gS (g : GS) : Nat := gD g / 30 % 4
theorem gS_lt (g : GS) : gS g < 4 := Nat.mod_lt _ (by decide)
theorem season_ok (H : Sg B h a g) : f_X7_presentSeason h a = some (w (gS g)) := by
  have hd := H.ok.d
  have hb := H.ok.hb
  unfold f_X7_presentSeason gS
  have e30 : (30 : Int32) = w 30 := rfl
  simp only [H.i13, Option.bind_some, e30]
  rw [w_div (by omega) (by decide), floorMod_w (by omega)]
  rfl
/-- the set of the notes somewhere -/
def gs (g : GS) (c : Nat) : Nat := mk (fun k => gH g k == c) (gN g)
def gc (g : GS) (c : Nat) : Nat := cn (fun k => gH g k == c) (gN g)
theorem setOf_ok (H : Sg B h a g) {c : Int32} {i : Nat} (hc : ∀ n, n < 3 → (wc n == c) = (n == i)) : f_X7_setOf h a c = some (w (gs g i)) := by
  have hn := H.ok.n
  have L := or_loop (fun fu k b => f_X7_setOf_L4 fu h a c b (w k)) (gN g) (fun k => gH g k == i) (by omega) (fun fu k b hk => by
    have e := hc _ (H.ok.note hk).2.2.2.2.2.2.1
    show f_X7_setOf_L4 (fu + 1) h a c b (w k) = f_X7_setOf_L4 fu h a c (if (gH g k == i) = true then b ||| w (2 ^ k) else b) (w (k + 1))
    simp only [f_X7_setOf_L4, H.i0, Option.bind_some, if_neg (is_lt hk (by omega)), H.r3, H.a3 hk, bit_w (show k < 31 by omega), w_succ]
    rw [← e]
    by_cases q : wc (gH g k) = c
    · simp [q]
    · simp [q]) (fun fu b => by
    show f_X7_setOf_L4 (fu + 1) h a c b (w (gN g)) = some b
    simp only [f_X7_setOf_L4, H.i0, Option.bind_some, if_pos is_ge])
  unfold f_X7_setOf
  show (f_X7_setOf_L4 FV h a c (w 0) (w 0)).bind _ = _
  rw [L]
  rfl
theorem pop_gs (O : Ok B g) (c : Nat) : pop (gs g c) = gc g c := pop_mk (by have := O.n; omega)
theorem gs_lt (O : Ok B g) (c : Nat) : gs g c < 1024 := mk_small10 O.n
theorem count_ok (H : Sg B h a g) {c : Int32} {i : Nat} (hc : ∀ n, n < 3 → (wc n == c) = (n == i)) : f_X7_count h a c = some (w (gc g i)) := by
  unfold f_X7_count
  simp only [H.gd, Option.bind_some, setOf_ok H hc]
  rw [bitCount_w _ (gs_lt H.ok _), pop_gs H.ok]
/-- the weight of a set -/
def gW (g : GS) (S : Nat) : Nat := sm (fun k => if S.testBit k then gT g k else 0) (gN g)
theorem weightOfAll_ok (H : Sg B h a g) {S : Nat} (hS : S < 2147483648) : f_X7_weightOfAll h a (w S) = some (w (gW g S)) := by
  have hn := H.ok.n
  have L := sum_loop (fun fu k b => f_X7_weightOfAll_L4 fu h a (w S) b (w k)) (gN g) (fun k => if S.testBit k then gT g k else 0) (by omega) (fun fu k b hk => by
    show f_X7_weightOfAll_L4 (fu + 1) h a (w S) b (w k) = f_X7_weightOfAll_L4 fu h a (w S) (b + w (if S.testBit k then gT g k else 0)) (w (k + 1))
    simp only [f_X7_weightOfAll_L4, H.i0, Option.bind_some, if_neg (is_lt hk (by omega)), H.r2, H.a2 hk, has_w hS (show k < 31 by omega), w_succ]
    by_cases q : S.testBit k = true
    · simp [q]
    · simp [q]
      exact congrArg (fun z => f_X7_weightOfAll_L4 fu h a (w S) z (w (k + 1))) (Int32.add_zero b).symm) (fun fu b => by
    show f_X7_weightOfAll_L4 (fu + 1) h a (w S) b (w (gN g)) = some b
    simp only [f_X7_weightOfAll_L4, H.i0, Option.bind_some, if_pos is_ge])
  unfold f_X7_weightOfAll
  show (f_X7_weightOfAll_L4 FV h a (w S) (w 0) (w 0)).bind _ = _
  rw [L]
  rfl
theorem countFloatingOn_ok (H : Sg B h a g) (x : Int32) : f_X7_countFloatingOn h a x = some (w (cn (fun k => gH g k == 0 && w (gP g k) == x) (gN g))) := by
  have hn := H.ok.n
  rw [← cn_sm]
  have L := sum_loop (fun fu k b => f_X7_countFloatingOn_L4 fu h a x b (w k)) (gN g) (fun k => (gH g k == 0 && w (gP g k) == x).toNat) (by omega) (fun fu k b hk => by
    have e := wc_0 (H.ok.note hk).2.2.2.2.2.2.1
    show f_X7_countFloatingOn_L4 (fu + 1) h a x b (w k) = f_X7_countFloatingOn_L4 fu h a x (b + w (gH g k == 0 && w (gP g k) == x).toNat) (w (k + 1))
    simp only [f_X7_countFloatingOn_L4, H.i0, Option.bind_some, if_neg (is_lt hk (by omega)), H.r3, H.a3 hk, H.r1, H.a1 hk, w_succ]
    rw [← e]
    have z : ∀ y : Int32, f_X7_countFloatingOn_L4 fu h a x (y + w 0) (w (k + 1)) = f_X7_countFloatingOn_L4 fu h a x y (w (k + 1)) := fun y => congrArg (fun z => f_X7_countFloatingOn_L4 fu h a x z (w (k + 1))) (Int32.add_zero y)
    by_cases q : wc (gH g k) = 102
    · by_cases r : w (gP g k) = x
      · simp [q, r]; rfl
      · have r' : (w (gP g k) == x) = false := by simpa using r
        rw [r']
        simp [q, r, z]
    · have q' : (wc (gH g k) == 102) = false := by simpa using q
      rw [q']
      simp [q, z]) (fun fu b => by
    show f_X7_countFloatingOn_L4 (fu + 1) h a x b (w (gN g)) = some b
    simp only [f_X7_countFloatingOn_L4, H.i0, Option.bind_some, if_pos is_ge])
  unfold f_X7_countFloatingOn
  show (f_X7_countFloatingOn_L4 FV h a x (w 0) (w 0)).bind _ = _
  rw [L]
  rfl
theorem gU_lt (O : Ok B g) (hk : k < gN g) : gU g k < 1024 := small10 O.n (O.note hk).2.2.2.2.2.2.2.2.1
/-- how many cite a note -/
def gC (g : GS) (j : Nat) : Nat := cn (fun k => (gU g k).testBit j) (gN g)
theorem countCiting_ok (H : Sg B h a g) {j : Nat} (hj : j < 31) : f_X7_countCiting h a (w j) = some (w (gC g j)) := by
  have hn := H.ok.n
  unfold gC
  rw [← cn_sm]
  have L := sum_loop (fun fu k b => f_X7_countCiting_L4 fu h a (w j) b (w k)) (gN g) (fun k => ((gU g k).testBit j).toNat) (by omega) (fun fu k b hk => by
    have hu := gU_lt H.ok hk
    show f_X7_countCiting_L4 (fu + 1) h a (w j) b (w k) = f_X7_countCiting_L4 fu h a (w j) (b + w ((gU g k).testBit j).toNat) (w (k + 1))
    simp only [f_X7_countCiting_L4, H.i0, Option.bind_some, if_neg (is_lt hk (by omega)), H.r4, H.a4 hk, has_w (show gU g k < 2147483648 by omega) hj, w_succ]
    by_cases q : (gU g k).testBit j = true
    · simp [q]; rfl
    · simp [q]
      exact congrArg (fun z => f_X7_countCiting_L4 fu h a (w j) z (w (k + 1))) (Int32.add_zero b).symm) (fun fu b => by
    show f_X7_countCiting_L4 (fu + 1) h a (w j) b (w (gN g)) = some b
    simp only [f_X7_countCiting_L4, H.i0, Option.bind_some, if_pos is_ge])
  unfold f_X7_countCiting
  show (f_X7_countCiting_L4 FV h a (w j) (w 0) (w 0)).bind _ = _
  rw [L]
  rfl
theorem countCitedFrom_ok (H : Sg B h a g) (hk : k < gN g) : f_X7_countCitedFrom h a (w k) = some (w (pop (gU g k))) := by
  unfold f_X7_countCitedFrom
  simp only [H.r4, H.a4 hk, Option.bind_some]
  rw [bitCount_w _ (gU_lt H.ok hk)]
end READ
