/-! SETS: preferred ones (the lowest note that tells two sets apart), sums, sets of sets in their order -/
section SETS
theorem sub_iff {T C : Nat} : T &&& C = T ↔ ∀ j, T.testBit j = true → C.testBit j = true := by
  constructor
  · intro h j hj
    rw [← h, Nat.testBit_and, Bool.and_eq_true] at hj
    exact hj.2
  · intro h
    refine Nat.eq_of_testBit_eq fun j => ?_
    rw [Nat.testBit_and]
    cases c : T.testBit j
    · rfl
    · rw [h j c]; rfl
theorem sub_le {T C : Nat} (h : T &&& C = T) : T ≤ C := by
  have := Nat.and_le_right (n := T) (m := C)
  omega
theorem and_half (a b : Nat) : (a &&& b) / 2 = a / 2 &&& b / 2 := Nat.eq_of_testBit_eq fun j => by
  rw [Nat.testBit_div_two, Nat.testBit_and, Nat.testBit_and, Nat.testBit_div_two, Nat.testBit_div_two]
theorem sub_half {T C : Nat} (h : T &&& C = T) : T / 2 &&& C / 2 = T / 2 := by rw [← and_half, h]
theorem sub_mod {T C : Nat} (h : T &&& C = T) : T % 2 ≤ C % 2 := by
  by_cases c : T % 2 = 1
  · have := sub_iff.mp h 0 (by rw [Nat.testBit_zero]; simpa using c)
    rw [Nat.testBit_zero] at this
    have : C % 2 = 1 := by simpa using this
    omega
  · omega
/-- going down the sets within a set leaves none out -/
theorem next_sub : ∀ S C T : Nat, S &&& C = S → T &&& C = T → T < S → T ≤ (S - 1) &&& C := by
  intro S
  induction S using Nat.strongRecOn with
  | _ S ih =>
    intro C T hS hT hlt
    by_cases odd : S % 2 = 1
    · have e : (S - 1) &&& C = S - 1 := by
        rw [sub_iff]
        intro j hj
        rw [sub_iff] at hS
        cases j with
        | zero =>
          rw [Nat.testBit_zero] at hj
          have : (S - 1) % 2 = 1 := by simpa using hj
          omega
        | succ j =>
          refine hS _ ?_
          rw [← Nat.testBit_div_two] at hj ⊢
          rwa [show (S - 1) / 2 = S / 2 by omega] at hj
      rw [e]; omega
    · have h1 := ih (S / 2) (by omega) (C / 2) (T / 2) (sub_half hS) (sub_half hT)
      have m2 : ((S - 1) &&& C) % 2 = C % 2 := by
        have a : ((S - 1) &&& C).testBit 0 = C.testBit 0 := by
          rw [Nat.testBit_and, Nat.testBit_zero, show (S - 1) % 2 = 1 by omega]; simp
        rw [Nat.testBit_zero, Nat.testBit_zero] at a
        by_cases c : C % 2 = 1
        · have : ((S - 1) &&& C) % 2 = 1 := by simpa [c] using a
          omega
        · have : ¬ ((S - 1) &&& C) % 2 = 1 := by simpa [c] using a
          omega
      have d2 : ((S - 1) &&& C) / 2 = (S / 2 - 1) &&& (C / 2) := by rw [and_half, show (S - 1) / 2 = S / 2 - 1 by omega]
      have mm := sub_mod hT
      by_cases q : T / 2 < S / 2
      · have := h1 q
        omega
      · omega
def sw (f : Nat → Nat) (n S : Nat) : Nat := sm (fun k => if S.testBit k then f k else 0) n
theorem sm_add (f g : Nat → Nat) (n : Nat) : sm (fun k => f k + g k) n = sm f n + sm g n := by
  induction n with
  | zero => rfl
  | succ n ih => unfold sm; rw [ih]; omega
theorem sw_or {f : Nat → Nat} {n S T : Nat} (h : ∀ k, k < n → ¬ (S.testBit k = true ∧ T.testBit k = true)) : sw f n (S ||| T) = sw f n S + sw f n T := by
  unfold sw
  rw [← sm_add]
  refine sm_ext fun k hk => ?_
  have := h k hk
  rw [Nat.testBit_or]
  cases a : S.testBit k <;> cases b : T.testBit k <;> simp_all
theorem sw_0 (f : Nat → Nat) (n : Nat) : sw f n 0 = 0 := by
  unfold sw
  induction n with
  | zero => rfl
  | succ n ih => unfold sm; rw [ih]; simp
theorem sw_one (f : Nat → Nat) : ∀ n k, k < n → sw f n (2 ^ k) = f k := by
  intro n
  induction n with
  | zero => intro k hk; omega
  | succ n ih =>
    intro k hk
    show sw f n (2 ^ k) + (if (2 ^ k).testBit n = true then f n else 0) = _
    by_cases e : k = n
    · subst e
      have : sw f k (2 ^ k) = 0 := by
        have z : sw f k (2 ^ k) = sw f k 0 := sm_ext fun j hj => by rw [Nat.testBit_two_pow]; simp; omega
        rw [z, sw_0]
      rw [this, Nat.testBit_two_pow]; simp
    · rw [ih k (by omega), Nat.testBit_two_pow]; simp; omega
theorem sw_mono {f : Nat → Nat} {n S T : Nat} (h : ∀ k, k < n → S.testBit k = true → T.testBit k = true) : sw f n S ≤ sw f n T := by
  unfold sw
  induction n with
  | zero => exact Nat.le_refl _
  | succ n ih =>
    unfold sm
    have h1 := ih fun k hk => h k (by omega)
    have h2 := h n (by omega)
    cases a : S.testBit n
    · simp; omega
    · rw [h2 a]; simp; omega
def rv (S : Nat) : Nat := sw (fun j => 2 ^ (9 - j)) 10 S
theorem rv_bit : ∀ S, S < 1024 → ∀ j, j < 10 → (rv S).testBit (9 - j) = S.testBit j := by decide +kernel
theorem rv_lt : ∀ S, S < 1024 → rv S < 1024 := by decide +kernel
theorem rv_back : ∀ S, S < 1024 → mk (fun j => (rv S).testBit (9 - j)) 10 = S := by decide +kernel
theorem rv_low : ∀ k, k < 10 → ∀ S, S < 2 ^ k → rv S ||| 2 ^ (9 - k) = rv S + 2 ^ (9 - k) := by decide +kernel
theorem rv_inj {S T : Nat} (hS : S < 1024) (hT : T < 1024) (h : rv S = rv T) : S = T := by rw [← rv_back S hS, h, rv_back T hT]
def lo (d : Nat) : Nat := cn (fun j => d % 2 ^ (j + 1) == 0) 10
theorem lo_fact : ∀ d, d < 1024 → d ≠ 0 → lo d < 10 ∧ d.testBit (lo d) = true ∧ w d &&& (-(w d)) = w (2 ^ lo d) := by decide +kernel
theorem lo_low : ∀ d, d < 1024 → ∀ i, i < 10 → i < lo d → d.testBit i = false := by decide +kernel
theorem tb_lt {x y : Nat} (i : Nat) (hx : x.testBit i = false) (hy : y.testBit i = true) (h : ∀ j, i < j → x.testBit j = y.testBit j) : x < y := by
  have e : x / 2 ^ (i + 1) = y / 2 ^ (i + 1) := Nat.eq_of_testBit_eq fun j => by
    rw [Nat.testBit_div_two_pow, Nat.testBit_div_two_pow]
    exact h _ (by omega)
  have e1 : x / 2 ^ i / 2 = y / 2 ^ i / 2 := by
    rw [Nat.div_div_eq_div_mul, Nat.div_div_eq_div_mul, ← Nat.pow_succ]
    exact e
  have d : x / 2 ^ i < y / 2 ^ i := by
    rw [Nat.testBit_eq_decide_div_mod_eq] at hx hy
    have a1 : ¬ x / 2 ^ i % 2 = 1 := by simpa using hx
    have a2 : y / 2 ^ i % 2 = 1 := by simpa using hy
    omega
  exact Nat.lt_of_not_le fun q => absurd (Nat.div_le_div_right (c := 2 ^ i) q) (by omega)
theorem xor_no {a b : Bool} (h : (a ^^ b) = false) : a = b := by
  cases a <;> cases b <;> first | rfl | exact absurd h (by decide)
theorem rv_less {S T : Nat} (hS : S < 1024) (hT : T < 1024) (hne : S ≠ T) (hb : T.testBit (lo (S ^^^ T)) = true) : rv S < rv T := by
  have hx : S ^^^ T < 1024 := Nat.xor_lt_two_pow (n := 10) hS hT
  have hx0 : S ^^^ T ≠ 0 := fun z => hne (by
    refine Nat.eq_of_testBit_eq fun j => ?_
    have : (S ^^^ T).testBit j = false := by rw [z, Nat.zero_testBit]
    rw [Nat.testBit_xor] at this
    exact xor_no this)
  obtain ⟨l1, l2, -⟩ := lo_fact _ hx hx0
  have hs : S.testBit (lo (S ^^^ T)) = false := by
    rw [Nat.testBit_xor, hb] at l2
    simpa using l2
  refine tb_lt (9 - lo (S ^^^ T)) ?_ ?_ (fun i hi => ?_)
  · rw [rv_bit S hS _ l1]; exact hs
  · rw [rv_bit T hT _ l1]; exact hb
  · by_cases c : i < 10
    · have e : i = 9 - (9 - i) := by omega
      rw [e, rv_bit S hS _ (by omega), rv_bit T hT _ (by omega)]
      have := lo_low _ hx (9 - i) (by omega) (by omega)
      rw [Nat.testBit_xor] at this
      exact xor_no this
    · have e1 : 1024 ≤ 2 ^ i := Nat.pow_le_pow_right (n := 2) (i := 10) (by decide) (by omega)
      rw [Nat.testBit_lt_two_pow (Nat.lt_of_lt_of_le (rv_lt S hS) e1), Nat.testBit_lt_two_pow (Nat.lt_of_lt_of_le (rv_lt T hT) e1)]
/-- the set of the greatest weight within a room, and of those the preferred one -/
def Bst (g : GS) (C R S : Nat) : Prop := S &&& C = S ∧ gW g S ≤ R ∧ ∀ T, T &&& C = T → gW g T ≤ R → gW g T < gW g S ∨ (gW g T = gW g S ∧ rv T ≤ rv S)
theorem Bst.one {g : GS} {C R S T : Nat} (hC : C < 1024) (A : Bst g C R S) (D : Bst g C R T) : S = T := by
  have hS := sub_le A.1
  have hT := sub_le D.1
  have h1 := A.2.2 T D.1 D.2.1
  have h2 := D.2.2 S A.1 A.2.1
  refine rv_inj (by omega) (by omega) ?_
  omega
noncomputable def gJ (g : GS) (p : Nat) : Nat := Classical.epsilon (Bst g (gOn g p (gs g 1)) (gR g p))
theorem gOn_lt {g : GS} (hn : gN g ≤ 10) (p S : Nat) : gOn g p S < 1024 := mk_small10 hn
theorem gJ_of {g : GS} {p S : Nat} (hn : gN g ≤ 10) (h : Bst g (gOn g p (gs g 1)) (gR g p) S) : gJ g p = S := (Classical.epsilon_spec (p := Bst g (gOn g p (gs g 1)) (gR g p)) ⟨S, h⟩).one (gOn_lt hn p _) h
theorem gW_sw (g : GS) (S : Nat) : gW g S = sw (gT g) (gN g) S := rfl
theorem gW_0 (g : GS) : gW g 0 = 0 := sw_0 _ _
theorem gW_le {g : GS} {B : Nat} (O : Ok B g) (S : Nat) : gW g S ≤ 300 := by
  have : gW g S ≤ gN g * 30 := sm_le fun k hk => by
    have := (O.note hk).2.2.2.2.1
    split
    · exact this
    · omega
  have := O.n
  omega
/-- the greatest weight of sets within a set is one only of the empty one, if it is 0 -/
theorem gW_pos {g : GS} {B S k : Nat} (O : Ok B g) (hk : k < gN g) (hS : S.testBit k = true) : 1 ≤ gW g S := by
  have h1 : sw (gT g) (gN g) (2 ^ k) ≤ sw (gT g) (gN g) S := sw_mono fun j _ hj => by
    rw [Nat.testBit_two_pow] at hj
    have : k = j := by simpa using hj
    rw [← this]; exact hS
  rw [sw_one _ _ _ hk] at h1
  have := (O.note hk).2.2.2.1
  rw [gW_sw]; omega
end SETS
