/-! TEXTS, purely: what a template matches from a place on; what a command is -/
section TEXT
variable {s : Nat → Int32} {L a c d i j k : Nat} {vs : List Int32} {r : List Nat}
theorem zff {P : Prop} (h : (false : Bool) = true) : P := absurd h (by decide)
theorem ztt {P : Prop} (h : (true : Bool) = false) : P := absurd h (by decide)
/-- the character at a place, or -1 behind the end -/
def ch (s : Nat → Int32) (L a : Nat) : Int32 := if a < L then s a else -1
def dgt (s : Nat → Int32) (L a : Nat) : Bool := decide ((48 : Int32) ≤ ch s L a) && decide (ch s L a ≤ (57 : Int32))
def dvl (s : Nat → Int32) (a : Nat) : Nat := nv (s a) - 48
/-- one part of a template: N a number, D a digit, S a digit with or without a sign, else the character itself -/
def mP (s : Nat → Int32) (L c a : Nat) (vs : List Int32) : Bool × Nat × List Int32 :=
  if c = 78 then (if dgt s L a = true then (if dgt s L (a + 1) = true then (true, a + 2, vs ++ [w (10 * dvl s a + dvl s (a + 1))]) else (true, a + 1, vs ++ [w (dvl s a)])) else (false, a, vs))
  else if c = 68 then (if dgt s L a = true then (true, a + 1, vs ++ [w (dvl s a)]) else (false, a, vs))
  else if c = 83 then (if ch s L a = 45 then (if dgt s L (a + 1) = true then (true, a + 2, vs ++ [-(w (dvl s (a + 1)))]) else (false, a + 1, vs)) else if dgt s L a = true then (true, a + 1, vs ++ [w (dvl s a)]) else (false, a, vs))
  else if ch s L a = w c then (true, a + 1, vs) else (false, a, vs)
def mT (s : Nat → Int32) (L : Nat) : List Nat → Nat → List Int32 → Bool × Nat × List Int32
  | [], a, vs => (true, a, vs)
  | c :: r, a, vs => if (mP s L c a vs).1 = true then mT s L r (mP s L c a vs).2.1 (mP s L c a vs).2.2 else mP s L c a vs
def tp (i : Nat) : List Nat := if i = 0 then [110, 111, 116, 101, 32, 78, 32, 78] else if i = 1 then [99, 105, 116, 101, 32, 68, 62, 68] else if i = 2 then [100, 114, 111, 112, 32, 68, 62, 68] else if i = 3 then [99, 117, 114, 114, 101, 110, 116, 32, 78, 61, 83] else if i = 4 then [110, 101, 116, 32, 78, 43, 78, 32, 78] else if i = 5 then [99, 117, 116, 32, 68] else if i = 6 then [104, 97, 117, 108, 32, 68] else if i = 7 then [113, 117, 111, 116, 97, 32, 78, 61, 78] else if i = 8 then [108, 97, 110, 100] else if i = 9 then [102, 114, 101, 101, 32, 68] else if i = 10 then [108, 105, 99, 101, 110, 99, 101] else [119, 97, 105, 116, 32, 78]
theorem dgt_lt (h : dgt s L a = true) : a < L := Nat.lt_of_not_le fun z => by
  unfold dgt ch at h
  rw [if_neg (by omega)] at h
  exact absurd h (by decide)
theorem dgt_val (h : dgt s L a = true) : s a = w (48 + dvl s a) ∧ dvl s a < 10 := by
  have hl := dgt_lt h
  unfold dgt ch at h
  rw [if_pos hl] at h
  simp at h
  obtain ⟨k, k1, k2, k3⟩ := (btw_iff (x := s a) (lo := 48) (hi := 57) (by decide) (by decide)).mp (by
    unfold f_X9_isBetween
    rw [if_neg (show ¬ s a < w 48 from Int32.not_lt.mpr h.1), if_neg (show ¬ w 57 < s a from Int32.not_lt.mpr h.2)])
  unfold dvl
  rw [k3, nv_w (by omega)]
  exact ⟨congrArg w (by omega), by omega⟩
theorem ch_lt (h : ch s L a = w c) (hc : c < 128) : a < L ∧ s a = w c := by
  unfold ch at h
  by_cases z : a < L
  · rw [if_pos z] at h; exact ⟨z, h⟩
  · rw [if_neg z] at h
    have : ∀ c, c < 128 → ¬ (-1 : Int32) = w c := by decide +kernel
    exact absurd h (this c hc)
theorem mP_ge (s : Nat → Int32) (L c a : Nat) (vs : List Int32) : a ≤ (mP s L c a vs).2.1 ∧ ((mP s L c a vs).1 = true → a + 1 ≤ (mP s L c a vs).2.1) := by
  unfold mP
  repeat' split
  all_goals simp
theorem mP_le (hc : c < 128) (h : (mP s L c a vs).1 = true) : (mP s L c a vs).2.1 ≤ L := by
  revert h
  unfold mP
  split
  · split
    · rename_i d1
      split
      · rename_i d2
        intro _
        have := dgt_lt d2
        show a + 2 ≤ L
        omega
      · intro _
        have := dgt_lt d1
        show a + 1 ≤ L
        omega
    · intro z; exact zff z
  · split
    · split
      · rename_i d1
        intro _
        have := dgt_lt d1
        show a + 1 ≤ L
        omega
      · intro z; exact zff z
    · split
      · split
        · split
          · rename_i d1
            intro _
            have := dgt_lt d1
            show a + 2 ≤ L
            omega
          · intro z; exact zff z
        · split
          · rename_i d1
            intro _
            have := dgt_lt d1
            show a + 1 ≤ L
            omega
          · intro z; exact zff z
      · split
        · rename_i d1
          intro _
          have := (ch_lt d1 hc).1
          show a + 1 ≤ L
          omega
        · intro z; exact zff z
theorem mT_ge (s : Nat → Int32) (L : Nat) : ∀ (r : List Nat) (a : Nat) (vs : List Int32), a ≤ (mT s L r a vs).2.1 ∧ ((mT s L r a vs).1 = true → a + r.length ≤ (mT s L r a vs).2.1) := by
  intro r
  induction r with
  | nil => intro a vs; exact ⟨Nat.le_refl _, fun _ => Nat.le_refl _⟩
  | cons c r ih =>
    intro a vs
    have g := mP_ge s L c a vs
    unfold mT
    by_cases h : (mP s L c a vs).1 = true
    · rw [if_pos h]
      have i1 := ih (mP s L c a vs).2.1 (mP s L c a vs).2.2
      have g2 := g.2 h
      refine ⟨by omega, fun z => ?_⟩
      have := i1.2 z
      rw [List.length_cons]
      omega
    · rw [if_neg h]
      exact ⟨g.1, fun z => absurd z h⟩
theorem mT_le : ∀ (r : List Nat) (a : Nat) (vs : List Int32), (∀ c, c ∈ r → c < 128) → a ≤ L → (mT s L r a vs).1 = true → (mT s L r a vs).2.1 ≤ L := by
  intro r
  induction r with
  | nil => intro a vs _ ha _; exact ha
  | cons c r ih =>
    intro a vs hr ha h
    unfold mT at h ⊢
    by_cases z : (mP s L c a vs).1 = true
    · rw [if_pos z] at h ⊢
      exact ih _ _ (fun c hc => hr c (List.mem_cons_of_mem _ hc)) (mP_le (hr c List.mem_cons_self) z) h
    · rw [if_neg z] at h
      exact absurd h z
theorem mT_cons : mT s L (c :: r) a vs = if (mP s L c a vs).1 = true then mT s L r (mP s L c a vs).2.1 (mP s L c a vs).2.2 else mP s L c a vs := rfl
theorem mT_app : ∀ (r r2 : List Nat) (a : Nat) (vs : List Int32), mT s L (r ++ r2) a vs = if (mT s L r a vs).1 = true then mT s L r2 (mT s L r a vs).2.1 (mT s L r a vs).2.2 else mT s L r a vs := by
  intro r
  induction r with
  | nil => intro r2 a vs; rfl
  | cons c r ih =>
    intro r2 a vs
    show mT s L (c :: (r ++ r2)) a vs = _
    rw [mT_cons, mT_cons]
    by_cases z : (mP s L c a vs).1 = true
    · rw [if_pos z, if_pos z]; exact ih r2 _ _
    · rw [if_neg z, if_neg z, if_neg z]
def lit (c : Nat) : Prop := c ≠ 78 ∧ c ≠ 68 ∧ c ≠ 83
theorem mP_lit (hc : lit c) : mP s L c a vs = if ch s L a = w c then (true, a + 1, vs) else (false, a, vs) := by
  unfold mP
  rw [if_neg hc.1, if_neg hc.2.1, if_neg hc.2.2]
theorem mT_yes (hc : lit c) (h : ch s L a = w c) : mT s L (c :: r) a vs = mT s L r (a + 1) vs := by
  rw [mT_cons, mP_lit hc, if_pos h]
  rfl
theorem mT_no (hc : lit c) (h : ¬ ch s L a = w c) : mT s L (c :: r) a vs = (false, a, vs) := by
  rw [mT_cons, mP_lit hc, if_neg h]
  rfl
/-- the class's trial of all templates -/
def pcl (s : Nat → Int32) (L a : Nat) : Nat → Nat → Nat → Bool × Nat × Nat × List Int32
  | 0, _, fu => (false, fu, 0, [])
  | d + 1, i, fu => if (mT s L (tp i) a []).1 = true then (true, (mT s L (tp i) a []).2.1, i, (mT s L (tp i) a []).2.2) else pcl s L a d (i + 1) (max fu (mT s L (tp i) a []).2.1)
def pC (s : Nat → Int32) (L a : Nat) : Bool × Nat × Nat × List Int32 := pcl s L a 12 0 a
theorem pcl_of {i0 : Nat} (ht : (mT s L (tp i0) a []).1 = true) : ∀ d i fu, i ≤ i0 → i0 < i + d → (∀ j, i ≤ j → j < i0 → (mT s L (tp j) a []).1 = false) → pcl s L a d i fu = (true, (mT s L (tp i0) a []).2.1, i0, (mT s L (tp i0) a []).2.2) := by
  intro d
  induction d with
  | zero => intro i fu h1 h2; omega
  | succ d ih =>
    intro i fu h1 h2 h3
    unfold pcl
    by_cases z : i = i0
    · subst z; rw [if_pos ht]
    · rw [if_neg (by rw [h3 i (Nat.le_refl _) (by omega)]; decide)]
      exact ih (i + 1) _ (by omega) (by omega) (fun j j1 j2 => h3 j (by omega) j2)
theorem pcl_no {F : Nat} : ∀ d i fu, (∀ j, i ≤ j → j < i + d → (mT s L (tp j) a []).1 = false ∧ (mT s L (tp j) a []).2.1 ≤ F) → fu ≤ F → (fu = F ∨ ∃ j, i ≤ j ∧ j < i + d ∧ (mT s L (tp j) a []).2.1 = F) → pcl s L a d i fu = (false, F, 0, []) := by
  intro d
  induction d with
  | zero =>
    intro i fu _ _ h
    rcases h with h | ⟨j, j1, j2, -⟩
    · rw [h]; rfl
    · omega
  | succ d ih =>
    intro i fu h1 h2 h3
    unfold pcl
    obtain ⟨q1, q2⟩ := h1 i (Nat.le_refl _) (by omega)
    rw [if_neg (by rw [q1]; decide)]
    refine ih (i + 1) _ (fun j j1 j2 => h1 j (by omega) (by omega)) (by omega) ?_
    rcases h3 with h3 | ⟨j, j1, j2, j3⟩
    · exact Or.inl (by omega)
    · by_cases z : j = i
      · subst z; exact Or.inl (by omega)
      · exact Or.inr ⟨j, by omega, by omega, j3⟩
/-- one template goes at least as far as all others, and no other matches -/
theorem pC_of {i0 : Nat} (h0 : i0 < 12) (h : ∀ j, j < 12 → j ≠ i0 → (mT s L (tp j) a []).1 = false ∧ (mT s L (tp j) a []).2.1 ≤ (mT s L (tp i0) a []).2.1) : pC s L a = if (mT s L (tp i0) a []).1 = true then (true, (mT s L (tp i0) a []).2.1, i0, (mT s L (tp i0) a []).2.2) else (false, (mT s L (tp i0) a []).2.1, 0, []) := by
  unfold pC
  by_cases z : (mT s L (tp i0) a []).1 = true
  · rw [if_pos z]
    exact pcl_of z 12 0 a (Nat.zero_le _) (by omega) (fun j _ j2 => (h j (by omega) (by omega)).1)
  · rw [if_neg z]
    refine pcl_no 12 0 a (fun j _ j2 => ?_) (mT_ge s L (tp i0) a []).1 (Or.inr ⟨i0, Nat.zero_le _, by omega, rfl⟩)
    by_cases y : j = i0
    · subst y; exact ⟨by simpa using z, Nat.le_refl _⟩
    · exact h j (by omega) y
end TEXT
