/-! prices, room, what a net covers and catches, the heaviest net: the class -/
section CATCH
def itr (f : Nat → Nat) : Nat → Nat → Nat
  | 0, S => S
  | n + 1, S => f (itr f n S)
theorem itr_add (f : Nat → Nat) (k S : Nat) : itr f k (f S) = itr f (k + 1) S := by
  induction k with
  | zero => rfl
  | succ k ih => show f (itr f k (f S)) = f (itr f (k + 1) S); rw [ih]
theorem cn_mono {p q : Nat → Bool} {n : Nat} (h : ∀ k, k < n → p k = true → q k = true) : cn p n ≤ cn q n := by
  induction n with
  | zero => exact Nat.le_refl _
  | succ n ih =>
    unfold cn
    have h1 := ih (fun k hk => h k (by omega))
    have h2 := h n (by omega)
    have h3 : (p n).toNat ≤ (q n).toNat := by
      cases hp : p n
      · exact Nat.zero_le _
      · rw [h2 hp]; exact Nat.le_refl _
    omega
theorem cn_strict {p q : Nat → Bool} {n : Nat} (h : ∀ k, k < n → p k = true → q k = true) {j : Nat} (hj : j < n) (h1 : p j = false) (h2 : q j = true) : cn p n < cn q n := by
  induction n with
  | zero => omega
  | succ n ih =>
    unfold cn
    by_cases e : j = n
    · subst e
      have := cn_mono (n := j) (fun k hk => h k (by omega))
      rw [h1, h2]
      show _ + 0 < _ + 1
      omega
    · have h3 := ih (fun k hk => h k (by omega)) (by omega)
      have h4 := h n (by omega)
      have h5 : (p n).toNat ≤ (q n).toNat := by
        cases hp : p n
        · exact Nat.zero_le _
        · rw [h4 hp]; exact Nat.le_refl _
      omega
/-- a growing step on sets below 2^n comes to rest within n rounds -/
theorem itr_rest {f : Nat → Nat} {n s0 : Nat} (hb : ∀ S, S < 2 ^ n → f S < 2 ^ n) (hi : ∀ S j, S.testBit j = true → (f S).testBit j = true) (h0 : s0 < 2 ^ n) : f (itr f n s0) = itr f n s0 := by
  have hlt : ∀ k, itr f k s0 < 2 ^ n := fun k => by
    induction k with
    | zero => exact h0
    | succ k ih => exact hb _ ih
  have key : ∀ k, f (itr f k s0) = itr f k s0 ∨ k ≤ cn (fun j => (itr f k s0).testBit j) n := by
    intro k
    induction k with
    | zero => exact Or.inr (Nat.zero_le _)
    | succ k ih =>
      rcases ih with h | h
      · left
        show f (f (itr f k s0)) = f (itr f k s0)
        rw [h, h]
      · by_cases e : f (itr f k s0) = itr f k s0
        · left
          show f (f (itr f k s0)) = f (itr f k s0)
          rw [e, e]
        · right
          have hne : ∃ j, (itr f k s0).testBit j ≠ (f (itr f k s0)).testBit j := Classical.byContradiction fun q => e (Nat.eq_of_testBit_eq fun j => Classical.byContradiction fun z => q ⟨j, fun y => z y.symm⟩)
          obtain ⟨j, hj⟩ := hne
          have hjn : j < n := Classical.byContradiction fun q => hj (by
            rw [Nat.testBit_lt_two_pow (Nat.lt_of_lt_of_le (hlt k) (Nat.pow_le_pow_right (by decide) (by omega))), Nat.testBit_lt_two_pow (Nat.lt_of_lt_of_le (show f (itr f k s0) < 2 ^ n from hlt (k + 1)) (Nat.pow_le_pow_right (by decide) (by omega)))])
          have h1 : (itr f k s0).testBit j = false := by
            cases z : (itr f k s0).testBit j
            · rfl
            · exact absurd (z.trans (hi _ j z).symm) hj
          have h2 : (f (itr f k s0)).testBit j = true := by
            cases z : (f (itr f k s0)).testBit j
            · exact absurd (h1.trans z.symm) hj
            · rfl
          have : cn (fun j => (itr f k s0).testBit j) n < cn (fun j => (f (itr f k s0)).testBit j) n := cn_strict (n := n) (fun i _ => hi (itr f k s0) i) hjn h1 h2
          show k + 1 ≤ cn (fun j => (f (itr f k s0)).testBit j) n
          omega
  rcases key n with h | h
  · exact h
  · by_cases e : f (itr f n s0) = itr f n s0
    · exact e
    · exfalso
      rcases key (n + 1) with q | q
      · -- at rest one later: then full already
        have hne : ∃ j, (itr f n s0).testBit j ≠ (f (itr f n s0)).testBit j := Classical.byContradiction fun q => e (Nat.eq_of_testBit_eq fun j => Classical.byContradiction fun z => q ⟨j, fun y => z y.symm⟩)
        obtain ⟨j, hj⟩ := hne
        have hjn : j < n := Classical.byContradiction fun q => hj (by
          rw [Nat.testBit_lt_two_pow (Nat.lt_of_lt_of_le (hlt n) (Nat.pow_le_pow_right (by decide) (by omega))), Nat.testBit_lt_two_pow (Nat.lt_of_lt_of_le (show f (itr f n s0) < 2 ^ n from hlt (n + 1)) (Nat.pow_le_pow_right (by decide) (by omega)))])
        have h1 : (itr f n s0).testBit j = false := by
          cases z : (itr f n s0).testBit j
          · rfl
          · exact absurd (z.trans (hi _ j z).symm) hj
        have h2 : (f (itr f n s0)).testBit j = true := by
          cases z : (f (itr f n s0)).testBit j
          · exact absurd (h1.trans z.symm) hj
          · rfl
        have h3 : cn (fun j => (itr f n s0).testBit j) n < cn (fun j => (f (itr f n s0)).testBit j) n := cn_strict (n := n) (fun i _ => hi (itr f n s0) i) hjn h1 h2
        have h4 := cn_le (fun j => (f (itr f n s0)).testBit j) n
        omega
      · have h4 := cn_le (fun j => (itr f (n + 1) s0).testBit j) n
        omega
theorem itr_lt {f : Nat → Nat} {n s0 : Nat} (hb : ∀ S, S < 2 ^ n → f S < 2 ^ n) (h0 : s0 < 2 ^ n) (k : Nat) : itr f k s0 < 2 ^ n := by
  induction k with
  | zero => exact h0
  | succ k ih => exact hb _ ih
theorem itr_stay {f : Nat → Nat} {k s0 : Nat} (h : f (itr f k s0) = itr f k s0) : ∀ m, k ≤ m → itr f m s0 = itr f k s0 := by
  intro m
  induction m with
  | zero => intro hm; rw [Nat.le_zero.mp hm]
  | succ m ih =>
    intro hm
    by_cases e : k = m + 1
    · rw [e]
    · show f (itr f m s0) = _
      rw [ih (by omega), h]
/-- a loop that goes on until nothing changes -/
theorem fix_run (F : Nat → Int32 → Int32 → Option Int32) (f : Nat → Nat) {n s0 : Nat} (hn : n ≤ 12) (hb : ∀ S, S < 2 ^ n → f S < 2 ^ n) (hi : ∀ S j, S.testBit j = true → (f S).testBit j = true) (h0 : s0 < 2 ^ n) (hF : ∀ fu S W, S < 2 ^ n → F (fu + 1) (w S) W = if w S = W then some (w S) else F fu (w (f S)) (w S)) : F FV (w s0) (-1) = some (w (itr f n s0)) := by
  have h2 : (2 : Nat) ^ n ≤ 4096 := Nat.le_trans (Nat.pow_le_pow_right (n := 2) (by decide) hn) (by decide)
  have rest := itr_rest hb hi h0
  have hlt := itr_lt hb h0
  have go : ∀ d fu k, n - k = d → k ≤ n → d + 2 ≤ fu → F fu (w (itr f (k + 1) s0)) (w (itr f k s0)) = some (w (itr f n s0)) := by
    intro d
    induction d with
    | zero =>
      intro fu k h1 h2' h3
      have e : k = n := by omega
      subst e
      obtain ⟨fu, rfl⟩ : ∃ z, fu = z + 1 := ⟨fu - 1, by omega⟩
      rw [hF fu _ _ (hlt _)]
      show (if w (f (itr f k s0)) = _ then _ else _) = _
      rw [rest, if_pos rfl]
      show some (w (f (itr f k s0))) = _
      rw [rest]
    | succ d ih =>
      intro fu k h1 h2' h3
      obtain ⟨fu, rfl⟩ : ∃ z, fu = z + 1 := ⟨fu - 1, by omega⟩
      rw [hF fu _ _ (hlt _)]
      by_cases e : w (itr f (k + 1) s0) = w (itr f k s0)
      · rw [if_pos e]
        have e1 := (w_inj (by have := hlt (k + 1); omega) (by have := hlt k; omega)).mp e
        have e2 : f (itr f k s0) = itr f k s0 := e1
        rw [itr_stay e2 n h2', e1]
      · rw [if_neg e]
        exact ih fu (k + 1) (by omega) (by omega) (by omega)
  have e0 : FV = 4095 + 1 := FV_eq
  rw [e0, hF 4095 _ _ h0, if_neg ?_]
  · exact go n 4095 0 (by omega) (Nat.zero_le _) (by omega)
  · intro q
    have h3 := congrArg Int32.toInt q
    rw [w_int (by omega)] at h3
    have h4 : (-1 : Int32).toInt = -1 := rfl
    rw [h4] at h3
    omega
variable {B : Nat} {g : GS} {h : PH} {a k p : Nat}
/-- the static row of prices -/
def prc (s : Nat) : Nat := if s = 0 then 20 else if s = 1 then 30 else if s = 2 then 40 else 10
def Pri (h : PH) : Prop := ∃ f : Nat → Int32, h.2 1 = .inl (.int, 4, .inl f) ∧ ∀ s, s < 4 → f s = w (prc s)
theorem price_ok (H : Sg B h a g) (Pr : Pri h) : f_X7_licencePrice h a = some (w (prc (gS g))) := by
  obtain ⟨f, h1, h2⟩ := Pr
  unfold f_X7_licencePrice
  simp only [H.gd, Option.bind_some, season_ok H]
  rw [alI_of h1 (by decide) (gS_lt g), h2 _ (gS_lt g)]
  rfl
def gR (g : GS) (p : Nat) : Nat := (if gS g = 2 then 2 * gQ g p else gQ g p) - gL g p
theorem room_ok (H : Sg B h a g) (hp : p < 12) : f_X7_roomOn h a (w p) = some (w (gR g p)) := by
  obtain ⟨-, -, hq, -, hl⟩ := H.ok.page hp
  have hs := gS_lt g
  unfold f_X7_roomOn gR
  simp only [H.gd, Option.bind_some, season_ok H, H.r6, H.a6 hp, H.r7, H.a7 hp]
  have e2 : (2 : Int32) = w 2 := rfl
  have h2 : (w (gS g) = w 2) = (gS g = 2) := propext (w_inj (by omega) (by decide))
  rw [e2, w_mul, max0_w (by omega) (by omega), max0_w (by omega) (by omega)]
  simp only [h2]
  by_cases c : gS g = 2 <;> simp [c]
def cov (g : GS) (net p : Nat) : Bool := decide ((p + 12 - gF g net) % 12 < gE g net)
theorem mod12_w {p f : Nat} (hp : p < 12) (hf : f < 12) : zrem ((w p - w f) + (12 : Int32)) (12 : Int32) = w ((p + 12 - f) % 12) := by
  have e : (w p - w f) + (12 : Int32) = w (p + 12 - f) := by
    rw [← w_sub (by omega), ← w_add]
    show w p - w f + w 12 = w p + w 12 - w f
    rw [Int32.sub_eq_add_neg, Int32.sub_eq_add_neg, Int32.add_assoc, Int32.add_comm (-w f), ← Int32.add_assoc]
  rw [e]
  exact w_rem (b := 12) (by omega) (by decide)
theorem isCovered_ok (H : Sg B h a g) (hk : k < gM g) (hp : p < 12) : f_X7_isCovered h a (w k) (w p) = some (cov g k p) := by
  obtain ⟨-, hf, -, -, he, -⟩ := H.ok.net hk
  unfold f_X7_isCovered cov
  simp only [H.r9, H.a9 hk, H.r10, H.a10 hk, Option.bind_some]
  rw [mod12_w hp hf]
  simp only [w_le (show gE g k < 2147483648 by omega) (show (p + 12 - gF g k) % 12 < 2147483648 by omega)]
  by_cases c : gE g k ≤ (p + 12 - gF g k) % 12
  · rw [if_pos c]
    have : ¬ (p + 12 - gF g k) % 12 < gE g k := by omega
    simp [this]
  · rw [if_neg c]
    have : (p + 12 - gF g k) % 12 < gE g k := by omega
    simp [this]
/-- the floating notes within a net -/
def gV (g : GS) (net : Nat) : Nat := mk (fun k => gH g k == 0 && cov g net (gP g k)) (gN g)
theorem within_ok (H : Sg B h a g) {net : Nat} (hm : net < gM g) : f_X7_floatingWithin h a (w net) = some (w (gV g net)) := by
  have hn := H.ok.n
  have L := or_loop (fun fu k b => f_X7_floatingWithin_L4 fu h a (w net) b (w k)) (gN g) (fun k => gH g k == 0 && cov g net (gP g k)) (by omega) (fun fu k b hk => by
    have e := wc_0 (H.ok.note hk).2.2.2.2.2.2.1
    have hp := (H.ok.note hk).2.1
    show f_X7_floatingWithin_L4 (fu + 1) h a (w net) b (w k) = f_X7_floatingWithin_L4 fu h a (w net) (if (gH g k == 0 && cov g net (gP g k)) = true then b ||| w (2 ^ k) else b) (w (k + 1))
    simp only [f_X7_floatingWithin_L4, H.i0, Option.bind_some, if_neg (is_lt hk (by omega)), H.r3, H.a3 hk, H.r1, H.a1 hk, H.gd, isCovered_ok H hm hp, bit_w (show k < 31 by omega), w_succ]
    rw [← e]
    by_cases q : wc (gH g k) = 102
    · by_cases r : cov g net (gP g k) = true
      · simp [q, r]
      · simp [q, r]
    · have q' : (wc (gH g k) == 102) = false := by simpa using q
      rw [q']
      simp [q]) (fun fu b => by
    show f_X7_floatingWithin_L4 (fu + 1) h a (w net) b (w (gN g)) = some b
    simp only [f_X7_floatingWithin_L4, H.i0, Option.bind_some, if_pos is_ge])
  unfold f_X7_floatingWithin
  show (f_X7_floatingWithin_L4 FV h a (w net) (w 0) (w 0)).bind _ = _
  rw [L]
  rfl
/-- what the notes of a set cite -/
def gX (g : GS) (S : Nat) : Nat := ors (fun k => if S.testBit k then gU g k else 0) (gN g)
theorem gX_lt (O : Ok B g) (S : Nat) : gX g S < 2 ^ gN g := ors_lt fun k hk => by
  by_cases c : S.testBit k = true
  · rw [if_pos c]; exact (O.note hk).2.2.2.2.2.2.2.2.1
  · rw [if_neg c]; exact Nat.two_pow_pos _
theorem citedFromSet_ok (H : Sg B h a g) {S : Nat} (hS : S < 2147483648) : f_X7_citedFromSet h a (w S) = some (w (gX g S)) := by
  have hn := H.ok.n
  have L := ors_loop (fun fu k b => f_X7_citedFromSet_L4 fu h a (w S) b (w k)) (gN g) (fun k => if S.testBit k then gU g k else 0) (by omega) (fun fu k b hk => by
    show f_X7_citedFromSet_L4 (fu + 1) h a (w S) b (w k) = f_X7_citedFromSet_L4 fu h a (w S) (b ||| w (if S.testBit k then gU g k else 0)) (w (k + 1))
    simp only [f_X7_citedFromSet_L4, H.i0, Option.bind_some, if_neg (is_lt hk (by omega)), H.r4, H.a4 hk, has_w hS (show k < 31 by omega), w_succ]
    by_cases q : S.testBit k = true
    · simp [q]
    · simp [q]
      exact congrArg (fun z => f_X7_citedFromSet_L4 fu h a (w S) z (w (k + 1))) (Int32.or_zero).symm) (fun fu b => by
    show f_X7_citedFromSet_L4 (fu + 1) h a (w S) b (w (gN g)) = some b
    simp only [f_X7_citedFromSet_L4, H.i0, Option.bind_some, if_pos is_ge])
  unfold f_X7_citedFromSet
  show (f_X7_citedFromSet_L4 FV h a (w S) (w 0) (w 0)).bind _ = _
  rw [L]
  rfl
def gZ0 (g : GS) (net : Nat) : Nat := mk (fun k => (gV g net).testBit k && decide (gK g net ≤ gT g k)) (gN g)
def gZs (g : GS) (net S : Nat) : Nat := S ||| (gX g S &&& gV g net)
/-- what a net would catch -/
def gZ (g : GS) (net : Nat) : Nat := itr (gZs g net) (gN g) (gZ0 g net)
theorem gZs_lt (O : Ok B g) {net S : Nat} (h : S < 2 ^ gN g) : gZs g net S < 2 ^ gN g := Nat.or_lt_two_pow h (Nat.lt_of_le_of_lt Nat.and_le_left (gX_lt O S))
theorem gZs_up (g : GS) (net S j : Nat) (h : S.testBit j = true) : (gZs g net S).testBit j = true := by
  unfold gZs
  rw [Nat.testBit_or, h, Bool.true_or]
theorem gZ_lt (O : Ok B g) (net : Nat) : gZ g net < 2 ^ gN g := itr_lt (fun _ => gZs_lt O) (mk_lt _ _) _
theorem gZ_small (O : Ok B g) (net : Nat) : gZ g net < 1024 := small10 O.n (gZ_lt O net)
theorem catchOf_ok (H : Sg B h a g) {net : Nat} (hm : net < gM g) : f_X7_catchOf h a (w net) = some (w (gZ g net)) := by
  have hn := H.ok.n
  have hV : gV g net < 2147483648 := mk_small (by omega)
  have L := or_loop (fun fu k b => f_X7_catchOf_L11 fu h a (w net) (w (gV g net)) b (w k)) (gN g) (fun k => (gV g net).testBit k && decide (gK g net ≤ gT g k)) (by omega) (fun fu k b hk => by
    obtain ⟨-, -, -, -, ht, -⟩ := H.ok.note hk
    obtain ⟨-, -, -, -, -, -, -, hg⟩ := H.ok.net hm
    show f_X7_catchOf_L11 (fu + 1) h a (w net) (w (gV g net)) b (w k) = f_X7_catchOf_L11 fu h a (w net) (w (gV g net)) (if ((gV g net).testBit k && decide (gK g net ≤ gT g k)) = true then b ||| w (2 ^ k) else b) (w (k + 1))
    simp only [f_X7_catchOf_L11, H.i0, Option.bind_some, if_neg (is_lt hk (by omega)), H.r2, H.a2 hk, H.r11, H.a11 hm, has_w hV (show k < 31 by omega), bit_w (show k < 31 by omega), w_succ, w_lt (show gT g k < 2147483648 by omega) (show gK g net < 2147483648 by omega)]
    by_cases q : (gV g net).testBit k = true
    · by_cases r : gT g k < gK g net
      · have r' : ¬ gK g net ≤ gT g k := by omega
        simp [q, r, r']
      · have r' : gK g net ≤ gT g k := by omega
        simp [q, r, r']
    · simp [q]) (fun fu b => by
    show f_X7_catchOf_L11 (fu + 1) h a (w net) (w (gV g net)) b (w (gN g)) = some b
    simp only [f_X7_catchOf_L11, H.i0, Option.bind_some, if_pos is_ge])
  have L2 := cnt0 (fun fu k b => f_X7_catchOf_L62 fu h a (w (gV g net)) b (w k)) (gN g) (fun k => w (itr (gZs g net) k (gZ0 g net))) (w (gZ g net)) (by omega) (fun fu k hk => by
    have hl : itr (gZs g net) k (gZ0 g net) < 1024 := small10 hn (itr_lt (fun _ => gZs_lt H.ok) (mk_lt _ _) k)
    show f_X7_catchOf_L62 (fu + 1) h a (w (gV g net)) (w (itr (gZs g net) k (gZ0 g net))) (w k) = f_X7_catchOf_L62 fu h a (w (gV g net)) (w (itr (gZs g net) (k + 1) (gZ0 g net))) (w (k + 1))
    simp only [f_X7_catchOf_L62, H.i0, Option.bind_some, if_neg (is_lt hk (by omega)), H.gd, citedFromSet_ok H (show itr (gZs g net) k (gZ0 g net) < 2147483648 by omega), w_and, w_or, w_succ]
    rfl) (fun fu => by
    show f_X7_catchOf_L62 (fu + 1) h a (w (gV g net)) (w (gZ g net)) (w (gN g)) = some (w (gZ g net))
    simp only [f_X7_catchOf_L62, H.i0, Option.bind_some, if_pos is_ge])
  unfold f_X7_catchOf
  simp only [H.gd, Option.bind_some, within_ok H hm]
  show ((f_X7_catchOf_L11 FV h a (w net) (w (gV g net)) (w 0) (w 0)).bind _) = _
  rw [L, Option.bind_some]
  show ((f_X7_catchOf_L62 FV h a (w (gV g net)) (w (gZ0 g net)) (w 0)).bind _) = _
  rw [show f_X7_catchOf_L62 FV h a (w (gV g net)) (w (gZ0 g net)) (w 0) = _ from L2]
  rfl
end CATCH
