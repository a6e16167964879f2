/-! TEXTS, purely: which template goes furthest, letter by letter -/
section TRIE
variable {s : Nat → Int32} {L a c d i j k : Nat} {vs : List Int32} {r : List Nat}
def KK (k : Nat) (p : Bool × Nat × List Int32) : Bool × Nat × Nat × List Int32 := if p.1 = true then (true, p.2.1, k, p.2.2) else (false, p.2.1, 0, [])
def hdc (j : Nat) : Nat := if j = 0 then 110 else if j = 1 then 99 else if j = 2 then 100 else if j = 3 then 99 else if j = 4 then 110 else if j = 5 then 99 else if j = 6 then 104 else if j = 7 then 113 else if j = 8 then 108 else if j = 9 then 102 else if j = 10 then 108 else 119
theorem lit_of (h : (c != 78 && c != 68 && c != 83) = true) : lit c := by
  simp at h
  exact ⟨h.1.1, h.1.2, h.2⟩
theorem w_ne (hc : c < 128) (hd : d < 128) (h : c ≠ d) (e : ch s L a = w c) : ¬ ch s L a = w d := fun z => h ((w_inj (by omega) (by omega)).mp (e.symm.trans z))
theorem pk (i0 : Nat) (h0 : i0 < 12) {p : Bool × Nat × List Int32} (e : mT s L (tp i0) a [] = p) (h : ∀ j, j < 12 → j ≠ i0 → (mT s L (tp j) a []).1 = false ∧ (mT s L (tp j) a []).2.1 ≤ p.2.1) : pC s L a = KK i0 p := by
  subst e
  exact pC_of h0 h
theorem mT_hd (hj : j < 12) (h : ¬ ch s L a = w (hdc j)) : mT s L (tp j) a [] = (false, a, []) := by
  match j, hj with
  | 0, _ => exact mT_no (lit_of rfl) h
  | 1, _ => exact mT_no (lit_of rfl) h
  | 2, _ => exact mT_no (lit_of rfl) h
  | 3, _ => exact mT_no (lit_of rfl) h
  | 4, _ => exact mT_no (lit_of rfl) h
  | 5, _ => exact mT_no (lit_of rfl) h
  | 6, _ => exact mT_no (lit_of rfl) h
  | 7, _ => exact mT_no (lit_of rfl) h
  | 8, _ => exact mT_no (lit_of rfl) h
  | 9, _ => exact mT_no (lit_of rfl) h
  | 10, _ => exact mT_no (lit_of rfl) h
  | 11, _ => exact mT_no (lit_of rfl) h
theorem hd_lt : ∀ j, j < 12 → hdc j < 128 := by decide
theorem mT_far (hj : j < 12) (hc : c < 128) (h : ch s L a = w c) (hne : hdc j ≠ c) {F : Nat} (hF : a ≤ F) : (mT s L (tp j) a []).1 = false ∧ (mT s L (tp j) a []).2.1 ≤ F := by
  rw [mT_hd hj (w_ne hc (hd_lt j hj) (fun z => hne z.symm) h)]
  exact ⟨rfl, hF⟩
theorem le_d (h : ch s L a = w 100) : pC s L a = KK 2 (mT s L [114, 111, 112, 32, 68, 62, 68] (a + 1) []) := by
  have g := (mT_ge s L [114, 111, 112, 32, 68, 62, 68] (a + 1) []).1
  refine pk 2 (by decide) (mT_yes (lit_of rfl) h) (fun j hj hne => mT_far hj (by decide) h ?_ (by omega))
  have : ∀ j, j < 12 → j ≠ 2 → hdc j ≠ 100 := by decide
  exact this j hj hne
theorem le_h (h : ch s L a = w 104) : pC s L a = KK 6 (mT s L [97, 117, 108, 32, 68] (a + 1) []) := by
  have g := (mT_ge s L [97, 117, 108, 32, 68] (a + 1) []).1
  refine pk 6 (by decide) (mT_yes (lit_of rfl) h) (fun j hj hne => mT_far hj (by decide) h ?_ (by omega))
  have : ∀ j, j < 12 → j ≠ 6 → hdc j ≠ 104 := by decide
  exact this j hj hne
theorem le_q (h : ch s L a = w 113) : pC s L a = KK 7 (mT s L [117, 111, 116, 97, 32, 78, 61, 78] (a + 1) []) := by
  have g := (mT_ge s L [117, 111, 116, 97, 32, 78, 61, 78] (a + 1) []).1
  refine pk 7 (by decide) (mT_yes (lit_of rfl) h) (fun j hj hne => mT_far hj (by decide) h ?_ (by omega))
  have : ∀ j, j < 12 → j ≠ 7 → hdc j ≠ 113 := by decide
  exact this j hj hne
theorem le_f (h : ch s L a = w 102) : pC s L a = KK 9 (mT s L [114, 101, 101, 32, 68] (a + 1) []) := by
  have g := (mT_ge s L [114, 101, 101, 32, 68] (a + 1) []).1
  refine pk 9 (by decide) (mT_yes (lit_of rfl) h) (fun j hj hne => mT_far hj (by decide) h ?_ (by omega))
  have : ∀ j, j < 12 → j ≠ 9 → hdc j ≠ 102 := by decide
  exact this j hj hne
theorem le_w (h : ch s L a = w 119) : pC s L a = KK 11 (mT s L [97, 105, 116, 32, 78] (a + 1) []) := by
  have g := (mT_ge s L [97, 105, 116, 32, 78] (a + 1) []).1
  refine pk 11 (by decide) (mT_yes (lit_of rfl) h) (fun j hj hne => mT_far hj (by decide) h ?_ (by omega))
  have : ∀ j, j < 12 → j ≠ 11 → hdc j ≠ 119 := by decide
  exact this j hj hne
theorem le_ci (h : ch s L a = w 99) (h1 : ch s L (a + 1) = w 105) : pC s L a = KK 1 (mT s L [116, 101, 32, 68, 62, 68] (a + 2) []) := by
  have g := (mT_ge s L [116, 101, 32, 68, 62, 68] (a + 2) []).1
  refine pk 1 (by decide) ((mT_yes (lit_of rfl) h).trans (mT_yes (lit_of rfl) h1)) (fun j hj hne => ?_)
  by_cases y3 : j = 3
  · subst y3
    rw [show mT s L (tp 3) a [] = (false, a + 1, []) from ((mT_yes (lit_of rfl) h).trans (mT_no (lit_of rfl) (w_ne (c := 105) (d := 117) (by decide) (by decide) (by decide) h1)))]
    exact ⟨rfl, by show a + 1 ≤ _; omega⟩
  by_cases y5 : j = 5
  · subst y5
    rw [show mT s L (tp 5) a [] = (false, a + 1, []) from ((mT_yes (lit_of rfl) h).trans (mT_no (lit_of rfl) (w_ne (c := 105) (d := 117) (by decide) (by decide) (by decide) h1)))]
    exact ⟨rfl, by show a + 1 ≤ _; omega⟩
  refine mT_far hj (by decide) h ?_ (by omega)
  have : ∀ j, j < 12 → j ≠ 1 → j ≠ 3 → j ≠ 5 → hdc j ≠ 99 := by decide
  exact this j hj hne y3 y5
theorem le_cut (h : ch s L a = w 99) (h1 : ch s L (a + 1) = w 117) (h2 : ch s L (a + 2) = w 116) : pC s L a = KK 5 (mT s L [32, 68] (a + 3) []) := by
  have g := (mT_ge s L [32, 68] (a + 3) []).1
  refine pk 5 (by decide) (((mT_yes (lit_of rfl) h).trans (mT_yes (lit_of rfl) h1)).trans (mT_yes (lit_of rfl) h2)) (fun j hj hne => ?_)
  by_cases y1 : j = 1
  · subst y1
    rw [show mT s L (tp 1) a [] = (false, a + 1, []) from ((mT_yes (lit_of rfl) h).trans (mT_no (lit_of rfl) (w_ne (c := 117) (d := 105) (by decide) (by decide) (by decide) h1)))]
    exact ⟨rfl, by show a + 1 ≤ _; omega⟩
  by_cases y3 : j = 3
  · subst y3
    rw [show mT s L (tp 3) a [] = (false, a + 2, []) from ((mT_yes (lit_of rfl) h).trans ((mT_yes (lit_of rfl) h1).trans (mT_no (lit_of rfl) (w_ne (c := 116) (d := 114) (by decide) (by decide) (by decide) h2))))]
    exact ⟨rfl, by show a + 2 ≤ _; omega⟩
  refine mT_far hj (by decide) h ?_ (by omega)
  have : ∀ j, j < 12 → j ≠ 5 → j ≠ 1 → j ≠ 3 → hdc j ≠ 99 := by decide
  exact this j hj hne y1 y3
theorem le_cur (h : ch s L a = w 99) (h1 : ch s L (a + 1) = w 117) (h2 : ¬ ch s L (a + 2) = w 116) : pC s L a = KK 3 (mT s L [114, 114, 101, 110, 116, 32, 78, 61, 83] (a + 2) []) := by
  have g := (mT_ge s L [114, 114, 101, 110, 116, 32, 78, 61, 83] (a + 2) []).1
  refine pk 3 (by decide) ((mT_yes (lit_of rfl) h).trans (mT_yes (lit_of rfl) h1)) (fun j hj hne => ?_)
  by_cases y1 : j = 1
  · subst y1
    rw [show mT s L (tp 1) a [] = (false, a + 1, []) from ((mT_yes (lit_of rfl) h).trans (mT_no (lit_of rfl) (w_ne (c := 117) (d := 105) (by decide) (by decide) (by decide) h1)))]
    exact ⟨rfl, by show a + 1 ≤ _; omega⟩
  by_cases y5 : j = 5
  · subst y5
    rw [show mT s L (tp 5) a [] = (false, a + 2, []) from ((mT_yes (lit_of rfl) h).trans ((mT_yes (lit_of rfl) h1).trans (mT_no (lit_of rfl) h2)))]
    exact ⟨rfl, by show a + 2 ≤ _; omega⟩
  refine mT_far hj (by decide) h ?_ (by omega)
  have : ∀ j, j < 12 → j ≠ 3 → j ≠ 1 → j ≠ 5 → hdc j ≠ 99 := by decide
  exact this j hj hne y1 y5
theorem le_c (h : ch s L a = w 99) (h1 : ¬ ch s L (a + 1) = w 105) (h2 : ¬ ch s L (a + 1) = w 117) : pC s L a = (false, a + 1, 0, []) := by
  have e : pC s L a = KK 1 (false, a + 1, []) := by
    refine pk 1 (by decide) ((mT_yes (lit_of rfl) h).trans (mT_no (lit_of rfl) h1)) (fun j hj hne => ?_)
    by_cases y3 : j = 3
    · subst y3
      rw [show mT s L (tp 3) a [] = (false, a + 1, []) from ((mT_yes (lit_of rfl) h).trans (mT_no (lit_of rfl) h2))]
      exact ⟨rfl, Nat.le_refl _⟩
    by_cases y5 : j = 5
    · subst y5
      rw [show mT s L (tp 5) a [] = (false, a + 1, []) from ((mT_yes (lit_of rfl) h).trans (mT_no (lit_of rfl) h2))]
      exact ⟨rfl, Nat.le_refl _⟩
    refine mT_far hj (by decide) h ?_ (Nat.le_succ _)
    have : ∀ j, j < 12 → j ≠ 1 → j ≠ 3 → j ≠ 5 → hdc j ≠ 99 := by decide
    exact this j hj hne y3 y5
  exact e
theorem le_la (h : ch s L a = w 108) (h1 : ch s L (a + 1) = w 97) : pC s L a = KK 8 (mT s L [110, 100] (a + 2) []) := by
  have g := (mT_ge s L [110, 100] (a + 2) []).1
  refine pk 8 (by decide) ((mT_yes (lit_of rfl) h).trans (mT_yes (lit_of rfl) h1)) (fun j hj hne => ?_)
  by_cases y10 : j = 10
  · subst y10
    rw [show mT s L (tp 10) a [] = (false, a + 1, []) from ((mT_yes (lit_of rfl) h).trans (mT_no (lit_of rfl) (w_ne (c := 97) (d := 105) (by decide) (by decide) (by decide) h1)))]
    exact ⟨rfl, by show a + 1 ≤ _; omega⟩
  refine mT_far hj (by decide) h ?_ (by omega)
  have : ∀ j, j < 12 → j ≠ 8 → j ≠ 10 → hdc j ≠ 108 := by decide
  exact this j hj hne y10
theorem le_li (h : ch s L a = w 108) (h1 : ¬ ch s L (a + 1) = w 97) : pC s L a = KK 10 (mT s L [105, 99, 101, 110, 99, 101] (a + 1) []) := by
  have g := (mT_ge s L [105, 99, 101, 110, 99, 101] (a + 1) []).1
  refine pk 10 (by decide) (mT_yes (lit_of rfl) h) (fun j hj hne => ?_)
  by_cases y8 : j = 8
  · subst y8
    rw [show mT s L (tp 8) a [] = (false, a + 1, []) from ((mT_yes (lit_of rfl) h).trans (mT_no (lit_of rfl) h1))]
    exact ⟨rfl, by show a + 1 ≤ _; omega⟩
  refine mT_far hj (by decide) h ?_ (by omega)
  have : ∀ j, j < 12 → j ≠ 10 → j ≠ 8 → hdc j ≠ 108 := by decide
  exact this j hj hne y8
theorem le_no (h : ch s L a = w 110) (h1 : ch s L (a + 1) = w 111) : pC s L a = KK 0 (mT s L [116, 101, 32, 78, 32, 78] (a + 2) []) := by
  have g := (mT_ge s L [116, 101, 32, 78, 32, 78] (a + 2) []).1
  refine pk 0 (by decide) ((mT_yes (lit_of rfl) h).trans (mT_yes (lit_of rfl) h1)) (fun j hj hne => ?_)
  by_cases y4 : j = 4
  · subst y4
    rw [show mT s L (tp 4) a [] = (false, a + 1, []) from ((mT_yes (lit_of rfl) h).trans (mT_no (lit_of rfl) (w_ne (c := 111) (d := 101) (by decide) (by decide) (by decide) h1)))]
    exact ⟨rfl, by show a + 1 ≤ _; omega⟩
  refine mT_far hj (by decide) h ?_ (by omega)
  have : ∀ j, j < 12 → j ≠ 0 → j ≠ 4 → hdc j ≠ 110 := by decide
  exact this j hj hne y4
theorem le_ne (h : ch s L a = w 110) (h1 : ¬ ch s L (a + 1) = w 111) : pC s L a = KK 4 (mT s L [101, 116, 32, 78, 43, 78, 32, 78] (a + 1) []) := by
  have g := (mT_ge s L [101, 116, 32, 78, 43, 78, 32, 78] (a + 1) []).1
  refine pk 4 (by decide) (mT_yes (lit_of rfl) h) (fun j hj hne => ?_)
  by_cases y0 : j = 0
  · subst y0
    rw [show mT s L (tp 0) a [] = (false, a + 1, []) from ((mT_yes (lit_of rfl) h).trans (mT_no (lit_of rfl) h1))]
    exact ⟨rfl, by show a + 1 ≤ _; omega⟩
  refine mT_far hj (by decide) h ?_ (by omega)
  have : ∀ j, j < 12 → j ≠ 4 → j ≠ 0 → hdc j ≠ 110 := by decide
  exact this j hj hne y0
theorem le_none (h1 : ¬ ch s L a = w 99) (h2 : ¬ ch s L a = w 100) (h3 : ¬ ch s L a = w 104) (h4 : ¬ ch s L a = w 113) (h5 : ¬ ch s L a = w 102) (h6 : ¬ ch s L a = w 119) (h7 : ¬ ch s L a = w 108) (h8 : ¬ ch s L a = w 110) : pC s L a = (false, a, 0, []) := by
  have hd : ∀ j, j < 12 → hdc j = 99 ∨ hdc j = 100 ∨ hdc j = 104 ∨ hdc j = 113 ∨ hdc j = 102 ∨ hdc j = 119 ∨ hdc j = 108 ∨ hdc j = 110 := by decide
  have e : ∀ j, j < 12 → mT s L (tp j) a [] = (false, a, []) := fun j hj => mT_hd hj (by rcases hd j hj with z | z | z | z | z | z | z | z <;> rw [z] <;> assumption)
  have e2 : pC s L a = KK 0 (false, a, []) := pk 0 (by decide) (e 0 (by decide)) (fun j hj _ => by rw [e j hj]; exact ⟨rfl, Nat.le_refl _⟩)
  exact e2
end TRIE
