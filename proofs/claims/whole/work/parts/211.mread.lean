/-! what the reference's own methods answer, by its row g -/
section MREAD
def Mg (B : Nat) (h : PH) (m : Nat) (g : GS) : Prop := Ok B g ∧ ∃ e, MoC h m e ∧ e 0 = g
variable {B : Nat} {g : GS} {h : PH} {m k p : Nat}
theorem Mg.ok (H : Mg B h m g) : Ok B g := H.1
theorem Mg.gd (H : Mg B h m g) : gd h m 12 = some () := H.2.choose_spec.1.gd
theorem Mg.r0 (H : Mg B h m g) : rdR h m 12 0 = some (m + 1) := H.2.choose_spec.1.r0
theorem Mg.a (H : Mg B h m g) {i : Nat} (hi : i < 99) : alI .int h (m + 1) (w i) = some (g i) := by
  obtain ⟨O, e, M, rfl⟩ := H
  exact M.a0 hi
theorem Mg.n0 (H : Mg B h m g) : alI .int h (m + 1) (0 : Int32) = some (w (gN g)) := (H.a (i := 0) (by decide)).trans (congrArg some H.ok.g0)
theorem Mg.n1 (H : Mg B h m g) : alI .int h (m + 1) (1 : Int32) = some (w (gM g)) := (H.a (i := 1) (by decide)).trans (congrArg some H.ok.g1)
theorem Mg.n2 (H : Mg B h m g) : alI .int h (m + 1) (2 : Int32) = some (w (gD g)) := (H.a (i := 2) (by decide)).trans (congrArg some H.ok.g2)
theorem of_ix (k j : Nat) : ((44 : Int32) + ((4 : Int32) * w k)) + w j = w (44 + 4 * k + j) := by
  show (w 44 + w 4 * w k) + w j = _
  rw [w_mul, w_add, w_add]
theorem by_ix (k j : Nat) : ((84 : Int32) + ((3 : Int32) * w k)) + w j = w (84 + 3 * k + j) := by
  show (w 84 + w 3 * w k) + w j = _
  rw [w_mul, w_add, w_add]
theorem Mg.of (H : Mg B h m g) (hk : k < 10) {j : Nat} (hj : j < 4) : f_X10_of h m (w k) (w j) = some (g (44 + 4 * k + j)) := by
  unfold f_X10_of
  simp only [H.r0, Option.bind_some, of_ix, H.a (show 44 + 4 * k + j < 99 by omega)]
theorem Mg.of0 (H : Mg B h m g) (hk : k < gN g) : f_X10_of h m (w k) (0 : Int32) = some (w (gP g k)) := (H.of (j := 0) (Nat.lt_of_lt_of_le hk H.ok.n) (by decide)).trans (congrArg some (H.ok.note hk).1)
theorem Mg.of1 (H : Mg B h m g) (hk : k < gN g) : f_X10_of h m (w k) (1 : Int32) = some (w (gT g k)) := (H.of (j := 1) (Nat.lt_of_lt_of_le hk H.ok.n) (by decide)).trans (by rw [show 44 + 4 * k + 1 = 45 + 4 * k by omega]; exact congrArg some (H.ok.note hk).2.2.1)
theorem Mg.of2 (H : Mg B h m g) (hk : k < gN g) : f_X10_of h m (w k) (2 : Int32) = some (w (gH g k)) := (H.of (j := 2) (Nat.lt_of_lt_of_le hk H.ok.n) (by decide)).trans (by rw [show 44 + 4 * k + 2 = 46 + 4 * k by omega]; exact congrArg some (H.ok.note hk).2.2.2.2.2.1)
theorem Mg.of3 (H : Mg B h m g) (hk : k < gN g) : f_X10_of h m (w k) (3 : Int32) = some (w (gU g k)) := (H.of (j := 3) (Nat.lt_of_lt_of_le hk H.ok.n) (by decide)).trans (by rw [show 44 + 4 * k + 3 = 47 + 4 * k by omega]; exact congrArg some (H.ok.note hk).2.2.2.2.2.2.2.1)
theorem Mg.by' (H : Mg B h m g) (hk : k < 5) {j : Nat} (hj : j < 3) : f_X10_by h m (w k) (w j) = some (g (84 + 3 * k + j)) := by
  unfold f_X10_by
  simp only [H.r0, Option.bind_some, by_ix, H.a (show 84 + 3 * k + j < 99 by omega)]
theorem Mg.by0 (H : Mg B h m g) (hk : k < gM g) : f_X10_by h m (w k) (0 : Int32) = some (w (gF g k)) := (H.by' (j := 0) (Nat.lt_of_lt_of_le hk H.ok.m) (by decide)).trans (congrArg some (H.ok.net hk).1)
theorem Mg.by1 (H : Mg B h m g) (hk : k < gM g) : f_X10_by h m (w k) (1 : Int32) = some (w (gE g k)) := (H.by' (j := 1) (Nat.lt_of_lt_of_le hk H.ok.m) (by decide)).trans (by rw [show 84 + 3 * k + 1 = 85 + 3 * k by omega]; exact congrArg some (H.ok.net hk).2.2.1)
theorem Mg.by2 (H : Mg B h m g) (hk : k < gM g) : f_X10_by h m (w k) (2 : Int32) = some (w (gK g k)) := (H.by' (j := 2) (Nat.lt_of_lt_of_le hk H.ok.m) (by decide)).trans (by rw [show 84 + 3 * k + 2 = 86 + 3 * k by omega]; exact congrArg some (H.ok.net hk).2.2.2.2.2.1)
theorem bit_1 (b : Bool) : (w b.toNat = (1 : Int32)) = (b = true) := by
  cases b
  · exact propext ⟨fun q => absurd q (by decide), fun q => absurd q (by decide)⟩
  · exact propext ⟨fun _ => rfl, fun _ => rfl⟩
theorem mbits {S : Nat} (hS : S < 2147483648) : f_X10_bits (w S) = some (w (pop S)) := by
  have L := sum_loop (fun fu k b => f_X10_bits_L4 fu (w S) b (w k)) 12 (fun k => (S.testBit k).toNat) (by decide) (fun fu k b hk => by
    show f_X10_bits_L4 (fu + 1) (w S) b (w k) = f_X10_bits_L4 fu (w S) (b + w (S.testBit k).toNat) (w (k + 1))
    simp only [f_X10_bits_L4, if_neg (show ¬ (12 : Int32) ≤ w k from is_lt (n := 12) hk (by decide)), w_bit hS (show k < 31 by omega), w_succ]) (fun fu b => by
    show f_X10_bits_L4 (fu + 1) (w S) b (w 12) = some b
    simp only [f_X10_bits_L4, if_pos (show (12 : Int32) ≤ w 12 from is_ge)])
  unfold f_X10_bits
  show (f_X10_bits_L4 FV (w S) (w 0) (w 0)).bind _ = _
  rw [L, cn_sm]
  rfl
theorem mseason (H : Mg B h m g) : f_X10_seasonNow h m = some (w (gS g)) := by
  have hd := H.ok.d
  have hb := H.ok.hb
  unfold f_X10_seasonNow gS
  have e30 : (30 : Int32) = w 30 := rfl
  have e4 : (4 : Int32) = w 4 := rfl
  simp only [H.r0, H.n2, Option.bind_some, e30, e4]
  rw [w_div (by omega) (by decide), w_rem (by omega) (by decide)]
theorem max0_le {a b : Nat} (ha : a < 1073741824) (hb : b < 1073741824) : (if (w a - w b) ≤ 0 then some (0 : Int32) else some (w a - w b)) = some (w (a - b)) := by
  have h := max0_w ha hb
  unfold f_J9_max_7cf53 at h
  by_cases c : (w a - w b) ≤ 0
  · rw [if_pos c]
    by_cases d : (w a - w b) < 0
    · rw [if_pos d] at h
      rw [← h]
    · rw [if_neg d] at h
      rw [← h]
      have e : w a - w b = 0 := Int32.le_antisymm c (Int32.not_lt.mp d)
      rw [e]
  · rw [if_neg c]
    have d : ¬ (w a - w b) < 0 := fun q => c (Int32.le_of_lt q)
    rw [if_neg d] at h
    rw [h]
theorem mroom (H : Mg B h m g) (hp : p < 12) : f_X10_roomOn h m (w p) = some (w (gR g p)) := by
  obtain ⟨-, q1, hq, q2, hl⟩ := H.ok.page hp
  have hs := gS_lt g
  have e1 : alI .int h (m + 1) ((20 : Int32) + w p) = some (w (gQ g p)) := by
    show alI .int h (m + 1) (w 20 + w p) = _
    rw [w_add, H.a (by omega), q1]
  have e2 : alI .int h (m + 1) ((32 : Int32) + w p) = some (w (gL g p)) := by
    show alI .int h (m + 1) (w 32 + w p) = _
    rw [w_add, H.a (by omega), q2]
  have J : ∀ z, z ≤ 2 → f_X10_roomOn_J13 h m (w p) (w z) = some (w (z * gQ g p - gL g p)) := by
    intro z hz
    unfold f_X10_roomOn_J13
    simp only [H.r0, Option.bind_some, e1, e2, w_mul]
    have : z * gQ g p ≤ 2 * 99 := Nat.mul_le_mul hz hq
    exact max0_le (by omega) (by omega)
  unfold f_X10_roomOn gR
  simp only [H.gd, Option.bind_some, mseason H]
  have h2 : (w (gS g) = (2 : Int32)) = (gS g = 2) := propext (w_inj (b := 2) (by omega) (by decide))
  simp only [h2]
  by_cases c : gS g = 2
  · simp only [c, not_true, if_false, if_true]
    exact J 2 (by decide)
  · simp only [c, not_false_iff, if_true, if_false]
    have := J 1 (by decide)
    rw [Nat.one_mul] at this
    exact this
theorem mthose (H : Mg B h m g) {c : Nat} (hc : c < 3) : f_X10_those h m (w c) = some (w (gs g c)) := by
  have hn := H.ok.n
  have L := or_loop (fun fu k b => f_X10_those_L4 fu h m (w c) b (w k)) (gN g) (fun k => gH g k == c) (by omega) (fun fu k b hk => by
    have h3 := (H.ok.note hk).2.2.2.2.2.2.1
    show f_X10_those_L4 (fu + 1) h m (w c) b (w k) = f_X10_those_L4 fu h m (w c) (if (gH g k == c) = true then b ||| w (2 ^ k) else b) (w (k + 1))
    simp only [f_X10_those_L4, H.r0, H.n0, H.gd, Option.bind_some, if_neg (is_lt hk (by omega)), H.of2 hk, w_shl k (by omega), w_succ, w_inj (show gH g k < 2147483648 by omega) (show c < 2147483648 by omega)]
    by_cases q : gH g k = c
    · simp [q]
    · simp [q]) (fun fu b => by
    show f_X10_those_L4 (fu + 1) h m (w c) b (w (gN g)) = some b
    simp only [f_X10_those_L4, H.r0, H.n0, Option.bind_some, if_pos is_ge])
  unfold f_X10_those
  show (f_X10_those_L4 FV h m (w c) (w 0) (w 0)).bind _ = _
  rw [L]
  rfl
/-- those of a set that are on a page -/
def gOn (g : GS) (p S : Nat) : Nat := mk (fun k => S.testBit k && gP g k == p) (gN g)
theorem monPage (H : Mg B h m g) (hp : p < 12) {S : Nat} (hS : S < 2147483648) : f_X10_onPage h m (w p) (w S) = some (w (gOn g p S)) := by
  have hn := H.ok.n
  have L := or_loop (fun fu k b => f_X10_onPage_L5 fu h m (w p) (w S) b (w k)) (gN g) (fun k => S.testBit k && gP g k == p) (by omega) (fun fu k b hk => by
    have h3 := (H.ok.note hk).2.1
    show f_X10_onPage_L5 (fu + 1) h m (w p) (w S) b (w k) = f_X10_onPage_L5 fu h m (w p) (w S) (if (S.testBit k && gP g k == p) = true then b ||| w (2 ^ k) else b) (w (k + 1))
    simp only [f_X10_onPage_L5, H.r0, H.n0, H.gd, Option.bind_some, if_neg (is_lt hk (by omega)), H.of0 hk, w_shl k (by omega), w_succ, w_bit hS (show k < 31 by omega), bit_1, w_inj (show gP g k < 2147483648 by omega) (show p < 2147483648 by omega)]
    by_cases q : S.testBit k = true
    · by_cases r : gP g k = p
      · simp [q, r]
      · simp [q, r]
    · simp [q]) (fun fu b => by
    show f_X10_onPage_L5 (fu + 1) h m (w p) (w S) b (w (gN g)) = some b
    simp only [f_X10_onPage_L5, H.r0, H.n0, Option.bind_some, if_pos is_ge])
  unfold f_X10_onPage
  show (f_X10_onPage_L5 FV h m (w p) (w S) (w 0) (w 0)).bind _ = _
  rw [L]
  rfl
theorem pred_lt {n : Nat} (hn : n < 2147483648) (x : Int32) : (w n - 1 < x) = (w n ≤ x) := by
  apply propext
  have e : (w n - (1 : Int32)).toInt = (n : Int) - 1 := by
    have e1 : w n - (1 : Int32) = Int32.ofInt ((n : Int) - 1) := by
      show Int32.ofNat n - Int32.ofNat 1 = _
      rw [← Int32.ofInt_eq_ofNat, ← Int32.ofInt_eq_ofNat, ← Int32.ofInt_sub]
      rfl
    rw [e1, Int32.toInt_ofInt_of_le (by omega) (by omega)]
  rw [Int32.lt_iff_toInt_lt, Int32.le_iff_toInt_le, e, w_int hn]
  omega
theorem misNote (H : Mg B h m g) (x : Int32) : f_X10_isNote h m x = some (isN g x) := by
  have hn := H.ok.n
  unfold f_X10_isNote f_X10_in isN
  simp only [H.r0, H.n0, Option.bind_some, pred_lt (show gN g < 2147483648 by omega)]
  by_cases c : x < 0
  · simp [c]
  · by_cases d : w (gN g) ≤ x <;> simp [c, d]
theorem misNet (H : Mg B h m g) (x : Int32) : f_X10_isNet h m x = some (isM g x) := by
  have hn := H.ok.m
  unfold f_X10_isNet f_X10_in isM
  simp only [H.r0, H.n1, Option.bind_some, pred_lt (show gM g < 2147483648 by omega)]
  by_cases c : x < 0
  · simp [c]
  · by_cases d : w (gM g) ≤ x <;> simp [c, d]
theorem misCovered (H : Mg B h m g) (hk : k < gM g) (hp : p < 12) : f_X10_isCovered h m (w k) (w p) = some (cov g k p) := by
  obtain ⟨-, hf, -, -, he, -⟩ := H.ok.net hk
  unfold f_X10_isCovered cov
  simp only [H.gd, H.by0 hk, H.by1 hk, Option.bind_some]
  rw [mod12_w hp hf]
  simp only [w_le (show gE g k < 2147483648 by omega) (show (p + 12 - gF g k) % 12 < 2147483648 by omega)]
  by_cases c : gE g k ≤ (p + 12 - gF g k) % 12
  · rw [if_pos c]
    have : ¬ (p + 12 - gF g k) % 12 < gE g k := by omega
    simp [this]
  · rw [if_neg c]
    have : (p + 12 - gF g k) % 12 < gE g k := by omega
    simp [this]
theorem or_and_ors (f : Nat → Nat) (V n : Nat) : ors (fun k => f k &&& V) n = ors f n &&& V := by
  induction n with
  | zero => simp [ors]
  | succ n ih => unfold ors; rw [ih, Nat.and_or_distrib_right]
theorem ors_from (F : Nat → Nat → Int32 → Option Int32) (n : Nat) (f : Nat → Nat) (S : Nat) (hn : n < 4096) (hs : ∀ fu k b, k < n → F (fu + 1) k b = F fu (k + 1) (b ||| w (f k))) (he : ∀ fu b, F (fu + 1) n b = some b) : F FV 0 (w S) = some (w (S ||| ors f n)) := by
  have := cnt0 F n (fun k => w (S ||| ors f k)) (w (S ||| ors f n)) hn (fun fu k hk => by
    rw [hs fu k _ hk, w_or, Nat.or_assoc]
    rfl) (fun fu => he fu _)
  simpa [ors] using this
theorem mcatches (H : Mg B h m g) {net : Nat} (hm : net < gM g) : f_X10_catches h m (w net) = some (w (gZ g net)) := by
  have hn := H.ok.n
  have hV : gV g net < 2147483648 := mk_small (by omega)
  have L1 := or_loop (fun fu k b => f_X10_catches_L4 fu h m (w net) b (w k)) (gN g) (fun k => gH g k == 0 && cov g net (gP g k)) (by omega) (fun fu k b hk => by
    have hp := (H.ok.note hk).2.1
    have h3 := (H.ok.note hk).2.2.2.2.2.2.1
    show f_X10_catches_L4 (fu + 1) h m (w net) b (w k) = f_X10_catches_L4 fu h m (w net) (if (gH g k == 0 && cov g net (gP g k)) = true then b ||| w (2 ^ k) else b) (w (k + 1))
    have z : (w (gH g k) = (0 : Int32)) = (gH g k = 0) := propext (w_inj (b := 0) (by omega) (by decide))
    simp only [f_X10_catches_L4, H.r0, H.n0, H.gd, Option.bind_some, if_neg (is_lt hk (by omega)), H.of2 hk, H.of0 hk, misCovered H hm hp, w_shl k (by omega), w_succ, z]
    by_cases q : gH g k = 0
    · by_cases r : cov g net (gP g k) = true
      · simp [q, r]
      · simp [q, r]
    · simp [q]) (fun fu b => by
    show f_X10_catches_L4 (fu + 1) h m (w net) b (w (gN g)) = some b
    simp only [f_X10_catches_L4, H.r0, H.n0, Option.bind_some, if_pos is_ge])
  have L2 := or_loop (fun fu k b => f_X10_catches_L54 fu h m (w net) (w (gV g net)) b (w k)) (gN g) (fun k => (gV g net).testBit k && decide (gK g net ≤ gT g k)) (by omega) (fun fu k b hk => by
    obtain ⟨-, -, -, -, ht, -⟩ := H.ok.note hk
    obtain ⟨-, -, -, -, -, -, -, hg⟩ := H.ok.net hm
    show f_X10_catches_L54 (fu + 1) h m (w net) (w (gV g net)) b (w k) = f_X10_catches_L54 fu h m (w net) (w (gV g net)) (if ((gV g net).testBit k && decide (gK g net ≤ gT g k)) = true then b ||| w (2 ^ k) else b) (w (k + 1))
    simp only [f_X10_catches_L54, H.r0, H.n0, H.gd, Option.bind_some, if_neg (is_lt hk (by omega)), H.of1 hk, H.by2 hm, w_bit hV (show k < 31 by omega), bit_1, w_shl k (by omega), w_succ, w_lt (show gT g k < 2147483648 by omega) (show gK g net < 2147483648 by omega)]
    by_cases q : (gV g net).testBit k = true
    · by_cases r : gT g k < gK g net
      · have r' : ¬ gK g net ≤ gT g k := by omega
        simp [q, r, r']
      · have r' : gK g net ≤ gT g k := by omega
        simp [q, r, r']
    · simp [q]) (fun fu b => by
    show f_X10_catches_L54 (fu + 1) h m (w net) (w (gV g net)) b (w (gN g)) = some b
    simp only [f_X10_catches_L54, H.r0, H.n0, Option.bind_some, if_pos is_ge])
  have L3 : ∀ S, S < 2147483648 → f_X10_catches_L119 FV h m (w (gV g net)) (w S) (w S) (w 0) = some (w (gZs g net S)) := by
    intro S hS
    have := ors_from (fun fu k b => f_X10_catches_L119 fu h m (w (gV g net)) b (w S) (w k)) (gN g) (fun k => (if S.testBit k then gU g k else 0) &&& gV g net) S (by omega) (fun fu k b hk => by
      show f_X10_catches_L119 (fu + 1) h m (w (gV g net)) b (w S) (w k) = f_X10_catches_L119 fu h m (w (gV g net)) (b ||| w ((if S.testBit k then gU g k else 0) &&& gV g net)) (w S) (w (k + 1))
      simp only [f_X10_catches_L119, H.r0, H.n0, H.gd, Option.bind_some, if_neg (is_lt hk (by omega)), H.of3 hk, w_bit hS (show k < 31 by omega), bit_1, w_succ, w_and]
      by_cases q : S.testBit k = true
      · simp [q]
      · simp [q]
        exact congrArg (fun z => f_X10_catches_L119 fu h m (w (gV g net)) z (w S) (w (k + 1))) (Int32.or_zero).symm) (fun fu b => by
      show f_X10_catches_L119 (fu + 1) h m (w (gV g net)) b (w S) (w (gN g)) = some b
      simp only [f_X10_catches_L119, H.r0, H.n0, Option.bind_some, if_pos is_ge])
    rw [or_and_ors] at this
    exact this
  have L4 := fix_run (fun fu S W => f_X10_catches_L107 fu h m (w (gV g net)) S W) (gZs g net) (n := gN g) (s0 := gZ0 g net) (by omega) (fun _ => gZs_lt H.ok) (gZs_up g net) (mk_lt _ _) (fun fu S W hS => by
    show f_X10_catches_L107 (fu + 1) h m (w (gV g net)) (w S) W = _
    simp only [f_X10_catches_L107]
    by_cases c : w S = W
    · rw [if_pos c, if_pos c]
    · rw [if_neg c, if_neg c]
      show (f_X10_catches_L119 FV h m (w (gV g net)) (w S) (w S) (w 0)).bind _ = _
      rw [L3 S (by have := small10 hn hS; omega)]
      rfl)
  unfold f_X10_catches
  show (f_X10_catches_L4 FV h m (w net) (w 0) (w 0)).bind _ = _
  rw [L1, Option.bind_some]
  show (f_X10_catches_L54 FV h m (w net) (w (gV g net)) (w 0) (w 0)).bind _ = _
  rw [L2, Option.bind_some]
  show (f_X10_catches_L107 FV h m (w (gV g net)) (w (gZ0 g net)) (-1)).bind _ = _
  rw [L4]
  rfl
theorem mheavy (H : Mg B h m g) {S : Nat} (hS : S < 2147483648) : f_X10_heavy h m (w S) = some (w (gW g S)) := by
  have hn := H.ok.n
  have L := sum_loop (fun fu k b => f_X10_heavy_L4 fu h m (w S) b (w k)) (gN g) (fun k => if S.testBit k then gT g k else 0) (by omega) (fun fu k b hk => by
    show f_X10_heavy_L4 (fu + 1) h m (w S) b (w k) = f_X10_heavy_L4 fu h m (w S) (b + w (if S.testBit k then gT g k else 0)) (w (k + 1))
    simp only [f_X10_heavy_L4, H.r0, H.n0, H.gd, Option.bind_some, if_neg (is_lt hk (by omega)), H.of1 hk, w_bit hS (show k < 31 by omega), w_mul, w_succ]
    by_cases q : S.testBit k = true
    · simp [q]
    · simp [q]) (fun fu b => by
    show f_X10_heavy_L4 (fu + 1) h m (w S) b (w (gN g)) = some b
    simp only [f_X10_heavy_L4, H.r0, H.n0, Option.bind_some, if_pos is_ge])
  unfold f_X10_heavy
  show (f_X10_heavy_L4 FV h m (w S) (w 0) (w 0)).bind _ = _
  rw [L]
  rfl
theorem mfee : ∀ s, s < 4 → f_X10_fee (w s) = w (prc s) := by decide +kernel
theorem mcited (H : Mg B h m g) {j : Nat} (hj : j < 31) : f_X10_cited h m (w j) = some (w (gC g j)) := by
  have hn := H.ok.n
  unfold gC
  rw [← cn_sm]
  have L := sum_loop (fun fu k b => f_X10_cited_L4 fu h m (w j) b (w k)) (gN g) (fun k => ((gU g k).testBit j).toNat) (by omega) (fun fu k b hk => by
    have hu := gU_lt H.ok hk
    show f_X10_cited_L4 (fu + 1) h m (w j) b (w k) = f_X10_cited_L4 fu h m (w j) (b + w ((gU g k).testBit j).toNat) (w (k + 1))
    simp only [f_X10_cited_L4, H.r0, H.n0, H.gd, Option.bind_some, if_neg (is_lt hk (by omega)), H.of3 hk, w_bit (show gU g k < 2147483648 by omega) hj, w_succ]) (fun fu b => by
    show f_X10_cited_L4 (fu + 1) h m (w j) b (w (gN g)) = some b
    simp only [f_X10_cited_L4, H.r0, H.n0, Option.bind_some, if_pos is_ge])
  unfold f_X10_cited
  show (f_X10_cited_L4 FV h m (w j) (w 0) (w 0)).bind _ = _
  rw [L]
  rfl
/-- one round further along the citations -/
def gRs (g : GS) (S : Nat) : Nat := S ||| gX g S
/-- what a note reaches -/
def gRe (g : GS) (k : Nat) : Nat := itr (gRs g) (gN g) (gU g k)
theorem gRs_lt (O : Ok B g) {S : Nat} (h : S < 2 ^ gN g) : gRs g S < 2 ^ gN g := Nat.or_lt_two_pow h (gX_lt O S)
theorem gRs_up (g : GS) (S j : Nat) (h : S.testBit j = true) : (gRs g S).testBit j = true := by
  unfold gRs
  rw [Nat.testBit_or, h, Bool.true_or]
theorem gRe_lt (O : Ok B g) (hk : k < gN g) : gRe g k < 2 ^ gN g := itr_lt (fun _ => gRs_lt O) (O.note hk).2.2.2.2.2.2.2.2.1 _
theorem mreached (H : Mg B h m g) (hk : k < gN g) : f_X10_reached h m (w k) = some (w (gRe g k)) := by
  have hn := H.ok.n
  have L3 : ∀ S, S < 2147483648 → f_X10_reached_L19 FV h m (w S) (w S) (w 0) = some (w (gRs g S)) := by
    intro S hS
    exact ors_from (fun fu k b => f_X10_reached_L19 fu h m b (w S) (w k)) (gN g) (fun k => if S.testBit k then gU g k else 0) S (by omega) (fun fu k b hk => by
      show f_X10_reached_L19 (fu + 1) h m b (w S) (w k) = f_X10_reached_L19 fu h m (b ||| w (if S.testBit k then gU g k else 0)) (w S) (w (k + 1))
      simp only [f_X10_reached_L19, H.r0, H.n0, H.gd, Option.bind_some, if_neg (is_lt hk (by omega)), H.of3 hk, w_bit hS (show k < 31 by omega), bit_1, w_succ]
      by_cases q : S.testBit k = true
      · simp [q]
      · simp [q]
        exact congrArg (fun z => f_X10_reached_L19 fu h m z (w S) (w (k + 1))) (Int32.or_zero).symm) (fun fu b => by
      show f_X10_reached_L19 (fu + 1) h m b (w S) (w (gN g)) = some b
      simp only [f_X10_reached_L19, H.r0, H.n0, Option.bind_some, if_pos is_ge])
  have L4 := fix_run (fun fu S W => f_X10_reached_L9 fu h m S W) (gRs g) (n := gN g) (s0 := gU g k) (by omega) (fun _ => gRs_lt H.ok) (gRs_up g) (H.ok.note hk).2.2.2.2.2.2.2.2.1 (fun fu S W hS => by
    show f_X10_reached_L9 (fu + 1) h m (w S) W = _
    simp only [f_X10_reached_L9]
    by_cases c : w S = W
    · rw [if_pos c, if_pos c]
    · rw [if_neg c, if_neg c]
      show (f_X10_reached_L19 FV h m (w S) (w S) (w 0)).bind _ = _
      rw [L3 S (by have := small10 hn hS; omega)]
      rfl)
  unfold f_X10_reached
  simp only [H.gd, H.of3 hk, Option.bind_some]
  show (f_X10_reached_L9 FV h m (w (gU g k)) (-1)).bind _ = _
  rw [L4]
  rfl
/-- the circle of a note, itself among it -/
def gO (g : GS) (k : Nat) : Nat := 2 ^ k ||| mk (fun j => (gRe g k).testBit j && (gRe g j).testBit k) (gN g)
theorem or_from (F : Nat → Nat → Int32 → Option Int32) (n : Nat) (p : Nat → Bool) (S : Nat) (hn : n < 4096) (hs : ∀ fu k b, k < n → F (fu + 1) k b = F fu (k + 1) (if p k = true then b ||| w (2 ^ k) else b)) (he : ∀ fu b, F (fu + 1) n b = some b) : F FV 0 (w S) = some (w (S ||| mk p n)) := by
  have := cnt0 F n (fun k => w (S ||| mk p k)) (w (S ||| mk p n)) hn (fun fu k hk => by
    rw [hs fu k _ hk]
    congr 1
    show _ = w (S ||| (mk p k ||| _))
    rw [← Nat.or_assoc, ← w_or (S ||| mk p k)]
    by_cases c : p k = true
    · rw [if_pos c, if_pos c]
    · rw [if_neg c, if_neg c]
      exact (Int32.or_zero).symm) (fun fu => he fu _)
  simpa [mk] using this
theorem mcircle (H : Mg B h m g) (hk : k < gN g) : f_X10_circle h m (w k) = some (w (gO g k)) := by
  have hn := H.ok.n
  have L := or_from (fun fu j b => f_X10_circle_L6 fu h m (w k) b (w j)) (gN g) (fun j => (gRe g k).testBit j && (gRe g j).testBit k) (2 ^ k) (by omega) (fun fu j b hj => by
    have h1 : gRe g k < 1024 := small10 hn (gRe_lt H.ok hk)
    have h2 : gRe g j < 1024 := small10 hn (gRe_lt H.ok hj)
    show f_X10_circle_L6 (fu + 1) h m (w k) b (w j) = f_X10_circle_L6 fu h m (w k) (if ((gRe g k).testBit j && (gRe g j).testBit k) = true then b ||| w (2 ^ j) else b) (w (j + 1))
    simp only [f_X10_circle_L6, H.r0, H.n0, H.gd, Option.bind_some, if_neg (is_lt hj (by omega)), mreached H hk, mreached H hj, w_bit (show gRe g k < 2147483648 by omega) (show j < 31 by omega), w_bit (show gRe g j < 2147483648 by omega) (show k < 31 by omega), bit_1, w_shl j (by omega), w_succ]
    by_cases q : (gRe g k).testBit j = true
    · by_cases r : (gRe g j).testBit k = true
      · simp [q, r]
      · simp [q, r]
    · simp [q]) (fun fu b => by
    show f_X10_circle_L6 (fu + 1) h m (w k) b (w (gN g)) = some b
    simp only [f_X10_circle_L6, H.r0, H.n0, Option.bind_some, if_pos is_ge])
  unfold f_X10_circle
  rw [w_shl k (by omega)]
  show (f_X10_circle_L6 FV h m (w k) (w (2 ^ k)) (w 0)).bind _ = _
  rw [L]
  rfl
theorem gO_lt (hk : k < gN g) : gO g k < 2 ^ gN g := Nat.or_lt_two_pow (Nat.pow_lt_pow_right (by decide) hk) (mk_lt _ _)
/-- is this note the first of a circle of more than one -/
def gOf (g : GS) (k : Nat) : Bool := decide (1 < pop (gO g k)) && ((gO g k) &&& (2 ^ k - 1) == 0)
/-- how many circles there are -/
def gOc (g : GS) : Nat := cn (gOf g) (gN g)
theorem mrounds (H : Mg B h m g) : f_X10_rounds h m = some (w (gOc g)) := by
  have hn := H.ok.n
  unfold gOc
  rw [← cn_sm]
  have L := sum_loop (fun fu k b => f_X10_rounds_L4 fu h m b (w k)) (gN g) (fun k => (gOf g k).toNat) (by omega) (fun fu k b hk => by
    have h1 : gO g k < 1024 := small10 hn (gO_lt hk)
    have h2 := pop_le (gO g k)
    have h3 : 1 ≤ 2 ^ k := Nat.one_le_two_pow
    show f_X10_rounds_L4 (fu + 1) h m b (w k) = f_X10_rounds_L4 fu h m (b + w (gOf g k).toNat) (w (k + 1))
    have e1 : (w (2 ^ k) - (1 : Int32)) = w (2 ^ k - 1) := by
      rw [w_of 1]
      exact w_sub h3
    have h5 : gO g k &&& (2 ^ k - 1) < 1024 := Nat.lt_of_le_of_lt Nat.and_le_left h1
    have z : ∀ y : Int32, f_X10_rounds_L4 fu h m (y + w 0) (w (k + 1)) = f_X10_rounds_L4 fu h m y (w (k + 1)) := fun y => congrArg (fun z => f_X10_rounds_L4 fu h m z (w (k + 1))) (Int32.add_zero y)
    unfold gOf
    simp only [f_X10_rounds_L4, H.r0, H.n0, H.gd, Option.bind_some, if_neg (is_lt hk (by omega)), mcircle H hk, mbits (show gO g k < 2147483648 by omega)]
    have e8 : (w (gO g k) &&& (zshl (1 : Int32) (w k) - (1 : Int32))) = w (gO g k &&& (2 ^ k - 1)) := by rw [w_shl k (by omega), e1, w_and]
    rw [e8, w_succ]
    generalize pop (gO g k) = P at h2 ⊢
    generalize gO g k &&& (2 ^ k - 1) = Y at h5 ⊢
    have e2 : (w P ≤ (1 : Int32)) = (P ≤ 1) := propext (w_le (b := 1) (by omega) (by decide))
    have e3 : (w Y = (0 : Int32)) = (Y = 0) := propext (w_inj (b := 0) (by omega) (by decide))
    have e0 : (0 : Int32) = w 0 := rfl
    have e9 : (1 : Int32) = w 1 := rfl
    simp only [e2, e3]
    by_cases q : P ≤ 1
    · have q' : ¬ 1 < P := by omega
      have f1 : (decide (1 < P) && (Y == 0)).toNat = 0 := by simp [q']
      rw [if_pos q, f1, e0]
    · have q' : 1 < P := by omega
      rw [if_neg q]
      by_cases r : Y = 0
      · have f1 : (decide (1 < P) && (Y == 0)).toNat = 1 := by simp [q', r]
        rw [if_neg (fun y => y r), f1, e9]
      · have f1 : (decide (1 < P) && (Y == 0)).toNat = 0 := by simp [r]
        rw [if_pos r, f1, e0]) (fun fu b => by
    show f_X10_rounds_L4 (fu + 1) h m b (w (gN g)) = some b
    simp only [f_X10_rounds_L4, H.r0, H.n0, Option.bind_some, if_pos is_ge])
  unfold f_X10_rounds
  show (f_X10_rounds_L4 FV h m (w 0) (w 0)).bind _ = _
  rw [L]
  rfl
end MREAD
