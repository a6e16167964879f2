/-! THE REFERENCE'S PARSER: the commands, letter by letter -/
section MLEAF
variable {h h0 h1 : PH} {e0 : CS} {a c d i k n L m p : Nat} {vs : List Int32} {cs r : List Nat} {s u u0 : Nat → Int32}
theorem mT_lits : ∀ (r : List Nat) (a : Nat) (vs : List Int32), (∀ c, c ∈ r → lit c) → (mT s L r a vs).2.2 = vs := by
  intro r
  induction r with
  | nil => intro a vs _; rfl
  | cons c r ih =>
    intro a vs hl
    by_cases z : ch s L a = w c
    · rw [mT_yes (hl c List.mem_cons_self) z]; exact ih _ _ (fun c hc => hl c (List.mem_cons_of_mem _ hc))
    · rw [mT_no (hl c List.mem_cons_self) z]
/-- the reference's words -/
def MWd (h : PH) : Prop := StrC h 62 [116, 101] ∧ StrC h 64 [] ∧ StrC h 66 [114, 114, 101, 110, 116] ∧ StrC h 68 [114, 111, 112] ∧ StrC h 70 [97, 117, 108] ∧ StrC h 72 [117, 111, 116, 97] ∧ StrC h 74 [114, 101, 101] ∧ StrC h 76 [97, 105, 116] ∧ StrC h 78 [110, 100] ∧ StrC h 80 [105, 99, 101, 110, 99, 101] ∧ StrC h 82 [101, 116]
def PKq (h0 : PH) (e0 : CS) (m : Nat) (u0 : Nat → Int32) (x : Option (Bool × PH)) (q : Bool × Nat × Nat × List Int32) : Prop := ∃ h1, x = some (q.1, h1) ∧ (q.1 = true → RV h0 h1 e0 q.2.1 m u0 q.2.2.1 q.2.2.2) ∧ ∃ u, RS h0 h1 e0 q.2.1 m u
theorem PO.kk {x : Option (Bool × PH)} {q : Bool × Nat × List Int32} (H : PO h0 e0 m u0 k x q) : PKq h0 e0 m u0 x (KK k q) := by
  obtain ⟨h1, d1, X, u, R⟩ := H
  unfold KK
  by_cases z : q.1 = true
  · rw [if_pos z]
    rw [z] at d1
    exact ⟨h1, d1, fun _ => X z, u, R⟩
  · rw [if_neg z]
    have z' : q.1 = false := by simpa using z
    rw [z'] at d1
    exact ⟨h1, d1, fun y => zff y, u, R⟩
theorem leaf_0 (Sw : ∀ h1, fr (mW 131) h0 h1 → MWd h1) (hL : e0 13 0 = w L) (h60 : L ≤ 60) (ha : a ≤ L) (hm : m ≤ 12) (R : RS h0 h e0 a m u0) : PO h0 e0 m u0 0 (SA (f_X10_isWord h 131 (0 : Int32) 62) fun q => SA (f_X10_figures q 131 (32 : Int32) ((4 : Int32) * w m + (1 : Int32)) (2 : Int32)) fun q => SE (f_X10_figures q 131 (32 : Int32) (((4 : Int32) * w m + (1 : Int32)) + (1 : Int32)) (2 : Int32))) (mT (e0 12) L [116, 101, 32, 78, 32, 78] a []) := by
  have hl : ∀ c, c ∈ ([116, 101] : List Nat) → lit c := by
    intro c hc
    have : ∀ c, c ∈ ([116, 101] : List Nat) → (c != 78 && c != 68 && c != 83) = true := by decide
    exact lit_of (this c hc)
  have W0 : PO h0 e0 m u0 0 (f_X10_isWord h 131 (0 : Int32) 62) (mT (e0 12) L [116, 101] a []) := word_ok (fun h1 F => (Sw h1 F).1) hl (by decide) hL h60 ha hm R 0
  have l128 : ∀ c, c ∈ ([116, 101] : List Nat) → c < 128 := by decide
  refine SA_ok (r := [116, 101]) (r2 := [32, 78, 32, 78]) W0 (fun h1 z R1 => ?_)
  have ha1 := mT_le _ _ _ l128 ha z
  rw [mT_lits _ _ _ hl] at R1 ⊢
  refine SA_ok (r := [32, 78]) (r2 := [32, 78]) (fig_ok (sep := 32) (c := 78) (mo := 2) (by decide) (lit_of rfl) (Or.inl ⟨rfl, rfl⟩) hL h60 ha1 hm (by decide) R1 (pl0 m)) (fun h2 z2 R2 => ?_)
  have ha2 := mT_le _ _ _ (by decide) ha1 z2
  have l1 := fig_len (lit_of rfl) (Or.inl rfl) z2
  have l1 : (mT (e0 12) L [32, 78] (mT (e0 12) L [116, 101] a []).2.1 []).2.2.length = 1 := l1
  exact SE_ok (fig_ok (sep := 32) (c := 78) (mo := 2) (by decide) (lit_of rfl) (Or.inl ⟨rfl, rfl⟩) hL h60 ha2 hm (by rw [l1]; decide) R2 (by rw [l1]; exact pl1 m))
theorem leaf_1 (Sw : ∀ h1, fr (mW 131) h0 h1 → MWd h1) (hL : e0 13 0 = w L) (h60 : L ≤ 60) (ha : a ≤ L) (hm : m ≤ 12) (R : RS h0 h e0 a m u0) : PO h0 e0 m u0 1 (SA (f_X10_isWord h 131 (1 : Int32) 62) fun q => SA (f_X10_figures q 131 (32 : Int32) ((4 : Int32) * w m + (1 : Int32)) (1 : Int32)) fun q => SE (f_X10_figures q 131 (62 : Int32) (((4 : Int32) * w m + (1 : Int32)) + (1 : Int32)) (1 : Int32))) (mT (e0 12) L [116, 101, 32, 68, 62, 68] a []) := by
  have hl : ∀ c, c ∈ ([116, 101] : List Nat) → lit c := by
    intro c hc
    have : ∀ c, c ∈ ([116, 101] : List Nat) → (c != 78 && c != 68 && c != 83) = true := by decide
    exact lit_of (this c hc)
  have W0 : PO h0 e0 m u0 1 (f_X10_isWord h 131 (1 : Int32) 62) (mT (e0 12) L [116, 101] a []) := word_ok (fun h1 F => (Sw h1 F).1) hl (by decide) hL h60 ha hm R 1
  have l128 : ∀ c, c ∈ ([116, 101] : List Nat) → c < 128 := by decide
  refine SA_ok (r := [116, 101]) (r2 := [32, 68, 62, 68]) W0 (fun h1 z R1 => ?_)
  have ha1 := mT_le _ _ _ l128 ha z
  rw [mT_lits _ _ _ hl] at R1 ⊢
  refine SA_ok (r := [32, 68]) (r2 := [62, 68]) (fig_ok (sep := 32) (c := 68) (mo := 1) (by decide) (lit_of rfl) (Or.inr ⟨rfl, rfl⟩) hL h60 ha1 hm (by decide) R1 (pl0 m)) (fun h2 z2 R2 => ?_)
  have ha2 := mT_le _ _ _ (by decide) ha1 z2
  have l1 := fig_len (lit_of rfl) (Or.inr rfl) z2
  have l1 : (mT (e0 12) L [32, 68] (mT (e0 12) L [116, 101] a []).2.1 []).2.2.length = 1 := l1
  exact SE_ok (fig_ok (sep := 62) (c := 68) (mo := 1) (by decide) (lit_of rfl) (Or.inr ⟨rfl, rfl⟩) hL h60 ha2 hm (by rw [l1]; decide) R2 (by rw [l1]; exact pl1 m))
theorem leaf_2 (Sw : ∀ h1, fr (mW 131) h0 h1 → MWd h1) (hL : e0 13 0 = w L) (h60 : L ≤ 60) (ha : a ≤ L) (hm : m ≤ 12) (R : RS h0 h e0 a m u0) : PO h0 e0 m u0 2 (SA (f_X10_isWord h 131 (2 : Int32) 68) fun q => SA (f_X10_figures q 131 (32 : Int32) ((4 : Int32) * w m + (1 : Int32)) (1 : Int32)) fun q => SE (f_X10_figures q 131 (62 : Int32) (((4 : Int32) * w m + (1 : Int32)) + (1 : Int32)) (1 : Int32))) (mT (e0 12) L [114, 111, 112, 32, 68, 62, 68] a []) := by
  have hl : ∀ c, c ∈ ([114, 111, 112] : List Nat) → lit c := by
    intro c hc
    have : ∀ c, c ∈ ([114, 111, 112] : List Nat) → (c != 78 && c != 68 && c != 83) = true := by decide
    exact lit_of (this c hc)
  have W0 : PO h0 e0 m u0 2 (f_X10_isWord h 131 (2 : Int32) 68) (mT (e0 12) L [114, 111, 112] a []) := word_ok (fun h1 F => (Sw h1 F).2.2.2.1) hl (by decide) hL h60 ha hm R 2
  have l128 : ∀ c, c ∈ ([114, 111, 112] : List Nat) → c < 128 := by decide
  refine SA_ok (r := [114, 111, 112]) (r2 := [32, 68, 62, 68]) W0 (fun h1 z R1 => ?_)
  have ha1 := mT_le _ _ _ l128 ha z
  rw [mT_lits _ _ _ hl] at R1 ⊢
  refine SA_ok (r := [32, 68]) (r2 := [62, 68]) (fig_ok (sep := 32) (c := 68) (mo := 1) (by decide) (lit_of rfl) (Or.inr ⟨rfl, rfl⟩) hL h60 ha1 hm (by decide) R1 (pl0 m)) (fun h2 z2 R2 => ?_)
  have ha2 := mT_le _ _ _ (by decide) ha1 z2
  have l1 := fig_len (lit_of rfl) (Or.inr rfl) z2
  have l1 : (mT (e0 12) L [32, 68] (mT (e0 12) L [114, 111, 112] a []).2.1 []).2.2.length = 1 := l1
  exact SE_ok (fig_ok (sep := 62) (c := 68) (mo := 1) (by decide) (lit_of rfl) (Or.inr ⟨rfl, rfl⟩) hL h60 ha2 hm (by rw [l1]; decide) R2 (by rw [l1]; exact pl1 m))
theorem leaf_3 (Sw : ∀ h1, fr (mW 131) h0 h1 → MWd h1) (hL : e0 13 0 = w L) (h60 : L ≤ 60) (ha : a ≤ L) (hm : m ≤ 12) (R : RS h0 h e0 a m u0) : PO h0 e0 m u0 3 (SA (f_X10_isWord h 131 (3 : Int32) 66) fun q => SA (f_X10_figures q 131 (32 : Int32) ((4 : Int32) * w m + (1 : Int32)) (2 : Int32)) fun q => SE (f_X10_signed q 131 (((4 : Int32) * w m + (1 : Int32)) + (1 : Int32)))) (mT (e0 12) L [114, 114, 101, 110, 116, 32, 78, 61, 83] a []) := by
  have hl : ∀ c, c ∈ ([114, 114, 101, 110, 116] : List Nat) → lit c := by
    intro c hc
    have : ∀ c, c ∈ ([114, 114, 101, 110, 116] : List Nat) → (c != 78 && c != 68 && c != 83) = true := by decide
    exact lit_of (this c hc)
  have W0 : PO h0 e0 m u0 3 (f_X10_isWord h 131 (3 : Int32) 66) (mT (e0 12) L [114, 114, 101, 110, 116] a []) := word_ok (fun h1 F => (Sw h1 F).2.2.1) hl (by decide) hL h60 ha hm R 3
  have l128 : ∀ c, c ∈ ([114, 114, 101, 110, 116] : List Nat) → c < 128 := by decide
  refine SA_ok (r := [114, 114, 101, 110, 116]) (r2 := [32, 78, 61, 83]) W0 (fun h1 z R1 => ?_)
  have ha1 := mT_le _ _ _ l128 ha z
  rw [mT_lits _ _ _ hl] at R1 ⊢
  refine SA_ok (r := [32, 78]) (r2 := [61, 83]) (fig_ok (sep := 32) (c := 78) (mo := 2) (by decide) (lit_of rfl) (Or.inl ⟨rfl, rfl⟩) hL h60 ha1 hm (by decide) R1 (pl0 m)) (fun h2 z2 R2 => ?_)
  have ha2 := mT_le _ _ _ (by decide) ha1 z2
  have l1 := fig_len (lit_of rfl) (Or.inl rfl) z2
  have l1 : (mT (e0 12) L [32, 78] (mT (e0 12) L [114, 114, 101, 110, 116] a []).2.1 []).2.2.length = 1 := l1
  exact SE_ok (sgn_ok hL h60 ha2 hm (by rw [l1]; decide) R2 (by rw [l1]; exact pl1 m))
theorem leaf_4 (Sw : ∀ h1, fr (mW 131) h0 h1 → MWd h1) (hL : e0 13 0 = w L) (h60 : L ≤ 60) (ha : a ≤ L) (hm : m ≤ 12) (R : RS h0 h e0 a m u0) : PO h0 e0 m u0 4 (SA (f_X10_isWord h 131 (4 : Int32) 82) fun q => SA (f_X10_figures q 131 (32 : Int32) ((4 : Int32) * w m + (1 : Int32)) (2 : Int32)) fun q => SA (f_X10_figures q 131 (43 : Int32) (((4 : Int32) * w m + (1 : Int32)) + (1 : Int32)) (2 : Int32)) fun q => SE (f_X10_figures q 131 (32 : Int32) (((4 : Int32) * w m + (1 : Int32)) + (2 : Int32)) (2 : Int32))) (mT (e0 12) L [101, 116, 32, 78, 43, 78, 32, 78] a []) := by
  have hl : ∀ c, c ∈ ([101, 116] : List Nat) → lit c := by
    intro c hc
    have : ∀ c, c ∈ ([101, 116] : List Nat) → (c != 78 && c != 68 && c != 83) = true := by decide
    exact lit_of (this c hc)
  have W0 : PO h0 e0 m u0 4 (f_X10_isWord h 131 (4 : Int32) 82) (mT (e0 12) L [101, 116] a []) := word_ok (fun h1 F => (Sw h1 F).2.2.2.2.2.2.2.2.2.2) hl (by decide) hL h60 ha hm R 4
  have l128 : ∀ c, c ∈ ([101, 116] : List Nat) → c < 128 := by decide
  refine SA_ok (r := [101, 116]) (r2 := [32, 78, 43, 78, 32, 78]) W0 (fun h1 z R1 => ?_)
  have ha1 := mT_le _ _ _ l128 ha z
  rw [mT_lits _ _ _ hl] at R1 ⊢
  refine SA_ok (r := [32, 78]) (r2 := [43, 78, 32, 78]) (fig_ok (sep := 32) (c := 78) (mo := 2) (by decide) (lit_of rfl) (Or.inl ⟨rfl, rfl⟩) hL h60 ha1 hm (by decide) R1 (pl0 m)) (fun h2 z2 R2 => ?_)
  have ha2 := mT_le _ _ _ (by decide) ha1 z2
  have l1 := fig_len (lit_of rfl) (Or.inl rfl) z2
  have l1 : (mT (e0 12) L [32, 78] (mT (e0 12) L [101, 116] a []).2.1 []).2.2.length = 1 := l1
  refine SA_ok (r := [43, 78]) (r2 := [32, 78]) (fig_ok (sep := 43) (c := 78) (mo := 2) (by decide) (lit_of rfl) (Or.inl ⟨rfl, rfl⟩) hL h60 ha2 hm (by rw [l1]; decide) R2 (by rw [l1]; exact pl1 m)) (fun h3 z3 R3 => ?_)
  have ha3 := mT_le _ _ _ (by decide) ha2 z3
  have l2 := fig_len (lit_of rfl) (Or.inl rfl) z3
  rw [l1] at l2
  have l2 : (mT (e0 12) L [43, 78] (mT (e0 12) L [32, 78] (mT (e0 12) L [101, 116] a []).2.1 []).2.1 (mT (e0 12) L [32, 78] (mT (e0 12) L [101, 116] a []).2.1 []).2.2).2.2.length = 2 := l2
  exact SE_ok (fig_ok (sep := 32) (c := 78) (mo := 2) (by decide) (lit_of rfl) (Or.inl ⟨rfl, rfl⟩) hL h60 ha3 hm (by rw [l2]; decide) R3 (by rw [l2]; exact pl2 m))
theorem leaf_5 (Sw : ∀ h1, fr (mW 131) h0 h1 → MWd h1) (hL : e0 13 0 = w L) (h60 : L ≤ 60) (ha : a ≤ L) (hm : m ≤ 12) (R : RS h0 h e0 a m u0) : PO h0 e0 m u0 5 (SA (f_X10_isWord h 131 (5 : Int32) 64) fun q => SE (f_X10_figures q 131 (32 : Int32) ((4 : Int32) * w m + (1 : Int32)) (1 : Int32))) (mT (e0 12) L [32, 68] a []) := by
  have hl : ∀ c, c ∈ ([] : List Nat) → lit c := by
    intro c hc
    exact absurd hc (by simp)
  have W0 : PO h0 e0 m u0 5 (f_X10_isWord h 131 (5 : Int32) 64) (mT (e0 12) L [] a []) := word_ok (fun h1 F => (Sw h1 F).2.1) hl (by decide) hL h60 ha hm R 5
  have l128 : ∀ c, c ∈ ([] : List Nat) → c < 128 := by decide
  refine SA_ok (r := []) (r2 := [32, 68]) W0 (fun h1 z R1 => ?_)
  have ha1 := mT_le _ _ _ l128 ha z
  rw [mT_lits _ _ _ hl] at R1 ⊢
  exact SE_ok (fig_ok (sep := 32) (c := 68) (mo := 1) (by decide) (lit_of rfl) (Or.inr ⟨rfl, rfl⟩) hL h60 ha1 hm (by decide) R1 (pl0 m))
theorem leaf_6 (Sw : ∀ h1, fr (mW 131) h0 h1 → MWd h1) (hL : e0 13 0 = w L) (h60 : L ≤ 60) (ha : a ≤ L) (hm : m ≤ 12) (R : RS h0 h e0 a m u0) : PO h0 e0 m u0 6 (SA (f_X10_isWord h 131 (6 : Int32) 70) fun q => SE (f_X10_figures q 131 (32 : Int32) ((4 : Int32) * w m + (1 : Int32)) (1 : Int32))) (mT (e0 12) L [97, 117, 108, 32, 68] a []) := by
  have hl : ∀ c, c ∈ ([97, 117, 108] : List Nat) → lit c := by
    intro c hc
    have : ∀ c, c ∈ ([97, 117, 108] : List Nat) → (c != 78 && c != 68 && c != 83) = true := by decide
    exact lit_of (this c hc)
  have W0 : PO h0 e0 m u0 6 (f_X10_isWord h 131 (6 : Int32) 70) (mT (e0 12) L [97, 117, 108] a []) := word_ok (fun h1 F => (Sw h1 F).2.2.2.2.1) hl (by decide) hL h60 ha hm R 6
  have l128 : ∀ c, c ∈ ([97, 117, 108] : List Nat) → c < 128 := by decide
  refine SA_ok (r := [97, 117, 108]) (r2 := [32, 68]) W0 (fun h1 z R1 => ?_)
  have ha1 := mT_le _ _ _ l128 ha z
  rw [mT_lits _ _ _ hl] at R1 ⊢
  exact SE_ok (fig_ok (sep := 32) (c := 68) (mo := 1) (by decide) (lit_of rfl) (Or.inr ⟨rfl, rfl⟩) hL h60 ha1 hm (by decide) R1 (pl0 m))
theorem leaf_7 (Sw : ∀ h1, fr (mW 131) h0 h1 → MWd h1) (hL : e0 13 0 = w L) (h60 : L ≤ 60) (ha : a ≤ L) (hm : m ≤ 12) (R : RS h0 h e0 a m u0) : PO h0 e0 m u0 7 (SA (f_X10_isWord h 131 (7 : Int32) 72) fun q => SA (f_X10_figures q 131 (32 : Int32) ((4 : Int32) * w m + (1 : Int32)) (2 : Int32)) fun q => SE (f_X10_figures q 131 (61 : Int32) (((4 : Int32) * w m + (1 : Int32)) + (1 : Int32)) (2 : Int32))) (mT (e0 12) L [117, 111, 116, 97, 32, 78, 61, 78] a []) := by
  have hl : ∀ c, c ∈ ([117, 111, 116, 97] : List Nat) → lit c := by
    intro c hc
    have : ∀ c, c ∈ ([117, 111, 116, 97] : List Nat) → (c != 78 && c != 68 && c != 83) = true := by decide
    exact lit_of (this c hc)
  have W0 : PO h0 e0 m u0 7 (f_X10_isWord h 131 (7 : Int32) 72) (mT (e0 12) L [117, 111, 116, 97] a []) := word_ok (fun h1 F => (Sw h1 F).2.2.2.2.2.1) hl (by decide) hL h60 ha hm R 7
  have l128 : ∀ c, c ∈ ([117, 111, 116, 97] : List Nat) → c < 128 := by decide
  refine SA_ok (r := [117, 111, 116, 97]) (r2 := [32, 78, 61, 78]) W0 (fun h1 z R1 => ?_)
  have ha1 := mT_le _ _ _ l128 ha z
  rw [mT_lits _ _ _ hl] at R1 ⊢
  refine SA_ok (r := [32, 78]) (r2 := [61, 78]) (fig_ok (sep := 32) (c := 78) (mo := 2) (by decide) (lit_of rfl) (Or.inl ⟨rfl, rfl⟩) hL h60 ha1 hm (by decide) R1 (pl0 m)) (fun h2 z2 R2 => ?_)
  have ha2 := mT_le _ _ _ (by decide) ha1 z2
  have l1 := fig_len (lit_of rfl) (Or.inl rfl) z2
  have l1 : (mT (e0 12) L [32, 78] (mT (e0 12) L [117, 111, 116, 97] a []).2.1 []).2.2.length = 1 := l1
  exact SE_ok (fig_ok (sep := 61) (c := 78) (mo := 2) (by decide) (lit_of rfl) (Or.inl ⟨rfl, rfl⟩) hL h60 ha2 hm (by rw [l1]; decide) R2 (by rw [l1]; exact pl1 m))
theorem leaf_8 (Sw : ∀ h1, fr (mW 131) h0 h1 → MWd h1) (hL : e0 13 0 = w L) (h60 : L ≤ 60) (ha : a ≤ L) (hm : m ≤ 12) (R : RS h0 h e0 a m u0) : PO h0 e0 m u0 8 (f_X10_isWord h 131 (8 : Int32) 78) (mT (e0 12) L [110, 100] a []) := by
  have hl : ∀ c, c ∈ ([110, 100] : List Nat) → lit c := by
    intro c hc
    have : ∀ c, c ∈ ([110, 100] : List Nat) → (c != 78 && c != 68 && c != 83) = true := by decide
    exact lit_of (this c hc)
  have W0 : PO h0 e0 m u0 8 (f_X10_isWord h 131 (8 : Int32) 78) (mT (e0 12) L [110, 100] a []) := word_ok (fun h1 F => (Sw h1 F).2.2.2.2.2.2.2.2.1) hl (by decide) hL h60 ha hm R 8
  exact W0
theorem leaf_9 (Sw : ∀ h1, fr (mW 131) h0 h1 → MWd h1) (hL : e0 13 0 = w L) (h60 : L ≤ 60) (ha : a ≤ L) (hm : m ≤ 12) (R : RS h0 h e0 a m u0) : PO h0 e0 m u0 9 (SA (f_X10_isWord h 131 (9 : Int32) 74) fun q => SE (f_X10_figures q 131 (32 : Int32) ((4 : Int32) * w m + (1 : Int32)) (1 : Int32))) (mT (e0 12) L [114, 101, 101, 32, 68] a []) := by
  have hl : ∀ c, c ∈ ([114, 101, 101] : List Nat) → lit c := by
    intro c hc
    have : ∀ c, c ∈ ([114, 101, 101] : List Nat) → (c != 78 && c != 68 && c != 83) = true := by decide
    exact lit_of (this c hc)
  have W0 : PO h0 e0 m u0 9 (f_X10_isWord h 131 (9 : Int32) 74) (mT (e0 12) L [114, 101, 101] a []) := word_ok (fun h1 F => (Sw h1 F).2.2.2.2.2.2.1) hl (by decide) hL h60 ha hm R 9
  have l128 : ∀ c, c ∈ ([114, 101, 101] : List Nat) → c < 128 := by decide
  refine SA_ok (r := [114, 101, 101]) (r2 := [32, 68]) W0 (fun h1 z R1 => ?_)
  have ha1 := mT_le _ _ _ l128 ha z
  rw [mT_lits _ _ _ hl] at R1 ⊢
  exact SE_ok (fig_ok (sep := 32) (c := 68) (mo := 1) (by decide) (lit_of rfl) (Or.inr ⟨rfl, rfl⟩) hL h60 ha1 hm (by decide) R1 (pl0 m))
theorem leaf_10 (Sw : ∀ h1, fr (mW 131) h0 h1 → MWd h1) (hL : e0 13 0 = w L) (h60 : L ≤ 60) (ha : a ≤ L) (hm : m ≤ 12) (R : RS h0 h e0 a m u0) : PO h0 e0 m u0 10 (f_X10_isWord h 131 (10 : Int32) 80) (mT (e0 12) L [105, 99, 101, 110, 99, 101] a []) := by
  have hl : ∀ c, c ∈ ([105, 99, 101, 110, 99, 101] : List Nat) → lit c := by
    intro c hc
    have : ∀ c, c ∈ ([105, 99, 101, 110, 99, 101] : List Nat) → (c != 78 && c != 68 && c != 83) = true := by decide
    exact lit_of (this c hc)
  have W0 : PO h0 e0 m u0 10 (f_X10_isWord h 131 (10 : Int32) 80) (mT (e0 12) L [105, 99, 101, 110, 99, 101] a []) := word_ok (fun h1 F => (Sw h1 F).2.2.2.2.2.2.2.2.2.1) hl (by decide) hL h60 ha hm R 10
  exact W0
theorem leaf_11 (Sw : ∀ h1, fr (mW 131) h0 h1 → MWd h1) (hL : e0 13 0 = w L) (h60 : L ≤ 60) (ha : a ≤ L) (hm : m ≤ 12) (R : RS h0 h e0 a m u0) : PO h0 e0 m u0 11 (SA (f_X10_isWord h 131 (11 : Int32) 76) fun q => SE (f_X10_figures q 131 (32 : Int32) ((4 : Int32) * w m + (1 : Int32)) (2 : Int32))) (mT (e0 12) L [97, 105, 116, 32, 78] a []) := by
  have hl : ∀ c, c ∈ ([97, 105, 116] : List Nat) → lit c := by
    intro c hc
    have : ∀ c, c ∈ ([97, 105, 116] : List Nat) → (c != 78 && c != 68 && c != 83) = true := by decide
    exact lit_of (this c hc)
  have W0 : PO h0 e0 m u0 11 (f_X10_isWord h 131 (11 : Int32) 76) (mT (e0 12) L [97, 105, 116] a []) := word_ok (fun h1 F => (Sw h1 F).2.2.2.2.2.2.2.1) hl (by decide) hL h60 ha hm R 11
  have l128 : ∀ c, c ∈ ([97, 105, 116] : List Nat) → c < 128 := by decide
  refine SA_ok (r := [97, 105, 116]) (r2 := [32, 78]) W0 (fun h1 z R1 => ?_)
  have ha1 := mT_le _ _ _ l128 ha z
  rw [mT_lits _ _ _ hl] at R1 ⊢
  exact SE_ok (fig_ok (sep := 32) (c := 78) (mo := 2) (by decide) (lit_of rfl) (Or.inl ⟨rfl, rfl⟩) hL h60 ha1 hm (by decide) R1 (pl0 m))
end MLEAF
