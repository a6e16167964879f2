/-! NUMBERS: small ints as Nats, sets of notes as Nats by their bits -/
section MATH1
def w (n : Nat) : Int32 := Int32.ofNat n
theorem w_of (n : Nat) : (OfNat.ofNat n : Int32) = w n := rfl
theorem w_nat {a : Nat} (h : a < 2147483648) : (w a).toNatClampNeg = a := Int32.toNatClampNeg_ofNat_of_lt h
theorem w_int {a : Nat} (h : a < 2147483648) : (w a).toInt = (a : Int) := Int32.toInt_ofNat_of_lt h
theorem w_lt {a b : Nat} (ha : a < 2147483648) (hb : b < 2147483648) : w a < w b ↔ a < b := Int32.ofNat_lt_iff_lt ha hb
theorem w_le {a b : Nat} (ha : a < 2147483648) (hb : b < 2147483648) : w a ≤ w b ↔ a ≤ b := Int32.ofNat_le_iff_le ha hb
theorem w_inj {a b : Nat} (ha : a < 2147483648) (hb : b < 2147483648) : w a = w b ↔ a = b := ⟨fun h => by
  have e := congrArg Int32.toNatClampNeg h
  rwa [w_nat ha, w_nat hb] at e, fun h => by rw [h]⟩
theorem w_add (a b : Nat) : w a + w b = w (a + b) := (Int32.ofNat_add a b).symm
theorem w_mul (a b : Nat) : w a * w b = w (a * b) := (Int32.ofNat_mul a b).symm
theorem w_sub {a b : Nat} (h : b ≤ a) : w a - w b = w (a - b) := (Int32.ofNat_sub a b h).symm
theorem w_succ (a : Nat) : w a + 1 = w (a + 1) := w_add a 1
theorem w_div {a b : Nat} (ha : a < 2147483648) (hb : b < 2147483648) : w a / w b = w (a / b) := (Int32.ofNat_div ha hb).symm
theorem w_rem {a b : Nat} (ha : a < 2147483648) (hb : b < 2147483648) : zrem (w a) (w b) = w (a % b) := by
  unfold zrem
  rw [w_div ha hb, w_mul, w_sub (Nat.div_mul_le_self a b)]
  congr 1
  have := Nat.div_add_mod a b
  rw [Nat.mul_comm] at this
  omega
theorem w_or (a b : Nat) : w a ||| w b = w (a ||| b) := Int32.toBitVec_inj.1 (by
  show BitVec.ofNat 32 a ||| BitVec.ofNat 32 b = BitVec.ofNat 32 (a ||| b)
  rw [BitVec.ofNat_or])
theorem w_and (a b : Nat) : w a &&& w b = w (a &&& b) := Int32.toBitVec_inj.1 (by
  show BitVec.ofNat 32 a &&& BitVec.ofNat 32 b = BitVec.ofNat 32 (a &&& b)
  rw [BitVec.ofNat_and])
theorem w_xor (a b : Nat) : w a ^^^ w b = w (a ^^^ b) := Int32.toBitVec_inj.1 (by
  show BitVec.ofNat 32 a ^^^ BitVec.ofNat 32 b = BitVec.ofNat 32 (a ^^^ b)
  rw [BitVec.ofNat_xor])
theorem w_nonneg {a : Nat} (h : a < 2147483648) : ¬ w a < 0 := by
  show ¬ w a < w 0
  rw [w_lt h (by decide)]
  omega
theorem w_shl : ∀ k : Nat, k < 31 → zshl (1 : Int32) (w k) = w (2 ^ k) := by decide +kernel
theorem w_sh0 : ∀ k : Nat, k < 31 → ((w k &&& 31).toBitVec.smod 32#32) = BitVec.ofNat 32 k := by decide +kernel
theorem w_shr {S k : Nat} (hS : S < 2147483648) (hk : k < 31) : zshr (w S) (w k) = w (S >>> k) := Int32.toBitVec_inj.1 (by
  show (BitVec.ofNat 32 S).sshiftRight' ((w k &&& 31).toBitVec.smod 32#32) = BitVec.ofNat 32 (S >>> k)
  rw [w_sh0 k hk]
  show (BitVec.ofNat 32 S).sshiftRight (BitVec.ofNat 32 k).toNat = _
  have e : (BitVec.ofNat 32 k).toNat = k := by
    rw [BitVec.toNat_ofNat]
    exact Nat.mod_eq_of_lt (by omega)
  have hm : (BitVec.ofNat 32 S).msb = false := by
    rw [BitVec.msb_eq_decide, BitVec.toNat_ofNat, Nat.mod_eq_of_lt (by omega)]
    exact decide_eq_false (by omega)
  rw [e, BitVec.sshiftRight_eq_of_msb_false hm]
  apply BitVec.eq_of_toNat_eq
  rw [BitVec.toNat_ushiftRight, BitVec.toNat_ofNat, BitVec.toNat_ofNat, Nat.mod_eq_of_lt (by omega)]
  have : S >>> k ≤ S := Nat.shiftRight_le _ _
  rw [Nat.mod_eq_of_lt (by omega)])
theorem w_bit {S k : Nat} (hS : S < 2147483648) (hk : k < 31) : (zshr (w S) (w k)) &&& 1 = w (S.testBit k).toNat := by
  rw [w_shr hS hk]
  show w (S >>> k) &&& w 1 = _
  rw [w_and]
  congr 1
  rw [Nat.and_comm, Nat.one_and_eq_mod_two, Nat.testBit_eq_decide_div_mod_eq, Nat.shiftRight_eq_div_pow]
  have : S / 2 ^ k % 2 < 2 := Nat.mod_lt _ (by decide)
  by_cases h : S / 2 ^ k % 2 = 1
  · simp [h]
  · have : S / 2 ^ k % 2 = 0 := by omega
    simp [this]
theorem has_w {S k : Nat} (hS : S < 2147483648) (hk : k < 31) : f_X9_has (w S) (w k) = S.testBit k := by
  unfold f_X9_has
  rw [w_bit hS hk]
  cases S.testBit k
  · exact if_pos rfl
  · exact if_neg (by decide)
theorem bit_w {k : Nat} (hk : k < 31) : f_X9_bit (w k) = w (2 ^ k) := w_shl k hk
/-- the set of the numbers below n that p tells -/
def mk (p : Nat → Bool) : Nat → Nat
  | 0 => 0
  | n + 1 => mk p n ||| (if p n then 2 ^ n else 0)
theorem mk_bit (p : Nat → Bool) (n j : Nat) : (mk p n).testBit j = (decide (j < n) && p j) := by
  induction n with
  | zero => simp [mk]
  | succ n ih =>
    unfold mk
    rw [Nat.testBit_or, ih]
    by_cases hp : p n
    · rw [if_pos hp, Nat.testBit_two_pow]
      by_cases hj : n = j
      · subst hj; simp [hp]
      · have : (decide (j < n + 1)) = decide (j < n) := by
          apply decide_eq_decide.mpr
          omega
        simp [hj, this]
    · rw [if_neg hp, Nat.zero_testBit, Bool.or_false]
      by_cases hj : n = j
      · subst hj; simp [hp]
      · have : (decide (j < n + 1)) = decide (j < n) := by
          apply decide_eq_decide.mpr
          omega
        rw [this]
theorem mk_lt (p : Nat → Bool) (n : Nat) : mk p n < 2 ^ n := Nat.lt_pow_two_of_testBit _ fun j hj => by
  rw [mk_bit]
  have : ¬ j < n := by omega
  simp [this]
theorem mk_le {p : Nat → Bool} {n m : Nat} (h : n ≤ m) : mk p n < 2 ^ m := Nat.lt_of_lt_of_le (mk_lt p n) (Nat.pow_le_pow_right (by decide) h)
theorem mk_small {p : Nat → Bool} {n : Nat} (h : n ≤ 12) : mk p n < 2147483648 := Nat.lt_of_lt_of_le (mk_le h) (by decide)
theorem mk_small12 {p : Nat → Bool} {n : Nat} (h : n ≤ 12) : mk p n < 4096 := Nat.lt_of_lt_of_le (mk_le h) (by decide)
theorem mk_small10 {p : Nat → Bool} {n : Nat} (h : n ≤ 10) : mk p n < 1024 := Nat.lt_of_lt_of_le (mk_le h) (by decide)
theorem mk_ext {p q : Nat → Bool} {n : Nat} (h : ∀ k, k < n → p k = q k) : mk p n = mk q n := Nat.eq_of_testBit_eq fun j => by
  rw [mk_bit, mk_bit]
  by_cases hj : j < n
  · simp [hj, h j hj]
  · simp [hj]
theorem mk_eq {S n : Nat} (hS : S < 2 ^ n) : mk (fun j => S.testBit j) n = S := Nat.eq_of_testBit_eq fun j => by
  rw [mk_bit]
  by_cases hj : j < n
  · simp [hj]
  · have : S.testBit j = false := Nat.testBit_lt_two_pow (Nat.lt_of_lt_of_le hS (Nat.pow_le_pow_right (by decide) (by omega)))
    simp [hj, this]
/-- how many of the numbers below n p tells -/
def cn (p : Nat → Bool) : Nat → Nat
  | 0 => 0
  | n + 1 => cn p n + (p n).toNat
theorem cn_le (p : Nat → Bool) (n : Nat) : cn p n ≤ n := by
  induction n with
  | zero => exact Nat.le_refl _
  | succ n ih =>
    unfold cn
    have : (p n).toNat ≤ 1 := by cases p n <;> decide
    omega
theorem cn_ext {p q : Nat → Bool} {n : Nat} (h : ∀ k, k < n → p k = q k) : cn p n = cn q n := by
  induction n with
  | zero => rfl
  | succ n ih =>
    unfold cn
    rw [ih (fun k hk => h k (by omega)), h n (by omega)]
theorem cn_none {p : Nat → Bool} {n m : Nat} (h : n ≤ m) (hz : ∀ k, n ≤ k → k < m → p k = false) : cn p m = cn p n := by
  induction m with
  | zero => rw [Nat.le_zero.mp h]
  | succ m ih =>
    by_cases e : n = m + 1
    · rw [e]
    · show cn p m + (p m).toNat = cn p n
      rw [hz m (by omega) (by omega)]
      exact ih (by omega) (fun k h1 h2 => hz k h1 (by omega))
/-- how many bits a set has -/
def pop (S : Nat) : Nat := cn (fun j => S.testBit j) 12
theorem pop_le (S : Nat) : pop S ≤ 12 := cn_le _ _
theorem pop_mk {p : Nat → Bool} {n : Nat} (h : n ≤ 12) : pop (mk p n) = cn p n := by
  unfold pop
  rw [cn_none h (fun k h1 _ => by rw [mk_bit]; have : ¬ k < n := by omega
                                  simp [this])]
  exact cn_ext fun k hk => by rw [mk_bit]; simp [hk]
theorem bitCount_w : ∀ S : Nat, S < 1024 → f_J6_bitCount_0f7a4 (w S) = w (pop S) := by decide +kernel
/-- sums -/
def sm (f : Nat → Nat) : Nat → Nat
  | 0 => 0
  | n + 1 => sm f n + f n
theorem sm_ext {f g : Nat → Nat} {n : Nat} (h : ∀ k, k < n → f k = g k) : sm f n = sm g n := by
  induction n with
  | zero => rfl
  | succ n ih =>
    unfold sm
    rw [ih (fun k hk => h k (by omega)), h n (by omega)]
theorem sm_le {f : Nat → Nat} {n b : Nat} (h : ∀ k, k < n → f k ≤ b) : sm f n ≤ n * b := by
  induction n with
  | zero => exact Nat.zero_le _
  | succ n ih =>
    unfold sm
    have h1 := ih (fun k hk => h k (by omega))
    have h2 := h n (by omega)
    rw [Nat.succ_mul]
    omega
/-- a loop that counts: closed forms of its state, a step, its end -/
theorem cnt {β γ : Type} {F : Nat → Nat → β → Option γ} {n : Nat} {acc : Nat → β} {out : γ} (hs : ∀ fu k, k < n → F (fu + 1) k (acc k) = F fu (k + 1) (acc (k + 1))) (he : ∀ fu, F (fu + 1) n (acc n) = some out) : ∀ fu k, k ≤ n → n - k < fu → F fu k (acc k) = some out := by
  intro fu
  induction fu with
  | zero => intro k h1 h2; omega
  | succ fu ih =>
    intro k h1 h2
    by_cases h : k = n
    · subst h; exact he fu
    · rw [hs fu k (by omega)]
      exact ih (k + 1) (by omega) (by omega)
theorem cnt0 {β γ : Type} (F : Nat → Nat → β → Option γ) (n : Nat) (acc : Nat → β) (out : γ) (hn : n < 4096) (hs : ∀ fu k, k < n → F (fu + 1) k (acc k) = F fu (k + 1) (acc (k + 1))) (he : ∀ fu, F (fu + 1) n (acc n) = some out) : F FV 0 (acc 0) = some out := cnt hs he FV 0 (Nat.zero_le _) (by rw [FV_eq]; omega)
end MATH1
