/-! the law's cases of the twelve changes -/
section CASESC
variable {B : Nat} {q : Nat → PC} {h : PH} {i N : Nat} {sc : Nat → Int32}
theorem case_0 (V : Inv B q h) (hq : q 0 = .inl (.int, N, .inl sc)) (hN : N ≤ 2048) (hP : Pri (0, q)) (hi : i + 4 ≤ N) (hb : B + 40 < 1000000000) : ∃ h1, f_L_case0 h 0 86 131 139 140 (w i) = some h1 ∧ Inv (B + 40) q h1 := by
  obtain ⟨C, OL, OD, g, K, c, sn, d1, d2, d3, t, l, n, e, I, M, T⟩ := V
  have a1 : ∀ {p : PH}, Cst q p → alI .int p 0 (w i + (1 : Int32)) = some (sc (i + 1)) := fun C1 => scr_at C1 hq hN (j := 1) (by omega)
  have a2 : ∀ {p : PH}, Cst q p → alI .int p 0 (w i + (2 : Int32)) = some (sc (i + 2)) := fun C1 => scr_at C1 hq hN (j := 2) (by omega)
  rcases chg (k := 0) (x := (sc (i + 1))) (y := (sc (i + 2))) (z := (0 : Int32)) C OL OD I M T (C.pri hP) hb (by decide) (fun p => f_X10_addNote p 131 (sc (i + 1)) (sc (i + 2))) (fun p Mp O A => mr_0 O Mp A) with ⟨v0, h1, E1, h2, W, h3, e3, E3, M2, M3, c3, V3, C2, L⟩ | ⟨v0, h1, E1, h3, e3, E3, M1, M3, c3, V3, C1, L⟩
  · have E1n : f_X9_change h 86 (0 : Int32) (sc (i + 1)) (sc (i + 2)) (0 : Int32) = some (Sum.inr (an g 0 (sc (i + 1)) (sc (i + 2))), h1) := E1
    have E3n : f_X10_addNote h2 131 (sc (i + 1)) (sc (i + 2)) = some (an g 0 (sc (i + 1)) (sc (i + 2)), h3) := E3
    refine ⟨h3, ?_, V3⟩
    unfold f_L_case0 f_L_addNote f_X9_addNote
    simp only [a1 C, a2 C, Option.bind_some, I.gd, E1n, Sum.elim_inr, W, a1 C2, a2 C2, M2.gd, E3n, M3.gd, thrown_of M3, c3]
    first | exact L | exact (if_pos trivial).trans L | exact (if_pos rfl).trans L
  · have E1n : f_X9_change h 86 (0 : Int32) (sc (i + 1)) (sc (i + 2)) (0 : Int32) = some (Sum.inl (xs (ju g 0 (sc (i + 1)) (sc (i + 2)) (0 : Int32))), h1) := E1
    have E3n : f_X10_addNote h1 131 (sc (i + 1)) (sc (i + 2)) = some (0, h3) := E3
    have EW : f_L_addNote h 86 (sc (i + 1)) (sc (i + 2)) 139 = some (cd 0 (ju g 0 (sc (i + 1)) (sc (i + 2)) (0 : Int32)), h1) := by
      unfold f_L_addNote f_X9_addNote
      simp only [I.gd, Option.bind_some, E1n, Sum.elim_inl]
      have hv : ju g 0 (sc (i + 1)) (sc (i + 2)) (0 : Int32) = -1 ∨ ju g 0 (sc (i + 1)) (sc (i + 2)) (0 : Int32) = 1 := by
        rcases jv_0 (x := (sc (i + 1))) (y := (sc (i + 2))) (z := (0 : Int32)) g with z | z | z
        · exact absurd z v0
        · exact Or.inl z
        · exact Or.inr (z)
      rcases hv with hv | hv <;> rw [hv] <;> simp [xs, cd]
    refine ⟨h3, ?_, V3⟩
    unfold f_L_case0
    simp only [a1 C, a2 C, Option.bind_some, EW, a1 C1, a2 C1, M1.gd, E3n, M3.gd, thrown_of M3, c3]
    first | exact L | exact (if_pos trivial).trans L | exact (if_pos rfl).trans L
theorem case_1 (V : Inv B q h) (hq : q 0 = .inl (.int, N, .inl sc)) (hN : N ≤ 2048) (hP : Pri (0, q)) (hi : i + 4 ≤ N) (hb : B + 40 < 1000000000) : ∃ h1, f_L_case1 h 0 86 131 139 140 (w i) = some h1 ∧ Inv (B + 40) q h1 := by
  obtain ⟨C, OL, OD, g, K, c, sn, d1, d2, d3, t, l, n, e, I, M, T⟩ := V
  have a1 : ∀ {p : PH}, Cst q p → alI .int p 0 (w i + (1 : Int32)) = some (sc (i + 1)) := fun C1 => scr_at C1 hq hN (j := 1) (by omega)
  have a2 : ∀ {p : PH}, Cst q p → alI .int p 0 (w i + (2 : Int32)) = some (sc (i + 2)) := fun C1 => scr_at C1 hq hN (j := 2) (by omega)
  rcases chg (k := 1) (x := (sc (i + 1))) (y := (sc (i + 2))) (z := (0 : Int32)) C OL OD I M T (C.pri hP) hb (by decide) (fun p => f_X10_cite p 131 (sc (i + 1)) (sc (i + 2))) (fun p Mp O A => mr_1 O Mp A) with ⟨v0, h1, E1, h2, W, h3, e3, E3, M2, M3, c3, V3, C2, L⟩ | ⟨v0, h1, E1, h3, e3, E3, M1, M3, c3, V3, C1, L⟩
  · have E1n : f_X9_change h 86 (1 : Int32) (sc (i + 1)) (sc (i + 2)) (0 : Int32) = some (Sum.inr (an g 1 (sc (i + 1)) (sc (i + 2))), h1) := E1
    have E3n : f_X10_cite h2 131 (sc (i + 1)) (sc (i + 2)) = some (an g 1 (sc (i + 1)) (sc (i + 2)), h3) := E3
    refine ⟨h3, ?_, V3⟩
    unfold f_L_case1 f_L_cite f_X9_cite
    simp only [a1 C, a2 C, Option.bind_some, I.gd, E1n, Sum.elim_inr, W, a1 C2, a2 C2, M2.gd, E3n, M3.gd, thrown_of M3, c3]
    first | exact L | exact (if_pos trivial).trans L | exact (if_pos rfl).trans L
  · have E1n : f_X9_change h 86 (1 : Int32) (sc (i + 1)) (sc (i + 2)) (0 : Int32) = some (Sum.inl (xs (ju g 1 (sc (i + 1)) (sc (i + 2)) (0 : Int32))), h1) := E1
    have E3n : f_X10_cite h1 131 (sc (i + 1)) (sc (i + 2)) = some (0, h3) := E3
    have EW : f_L_cite h 86 (sc (i + 1)) (sc (i + 2)) 139 = some (cd 1 (ju g 1 (sc (i + 1)) (sc (i + 2)) (0 : Int32)), h1) := by
      unfold f_L_cite f_X9_cite
      simp only [I.gd, Option.bind_some, E1n, Sum.elim_inl]
      have hv : ju g 1 (sc (i + 1)) (sc (i + 2)) (0 : Int32) = -1 ∨ ju g 1 (sc (i + 1)) (sc (i + 2)) (0 : Int32) = -2 ∨ ju g 1 (sc (i + 1)) (sc (i + 2)) (0 : Int32) = 5 := by
        rw [ju_1] at v0 ⊢
        rcases jv_C g (sc (i + 1)) (sc (i + 2)) 0 with z | z | z | ⟨z, -⟩
        · exact absurd z v0
        · exact Or.inl z
        · exact Or.inr (Or.inl z)
        · exact Or.inr (Or.inr (z))
      rcases hv with hv | hv | hv <;> rw [hv] <;> simp [xs, cd]
    refine ⟨h3, ?_, V3⟩
    unfold f_L_case1
    simp only [a1 C, a2 C, Option.bind_some, EW, a1 C1, a2 C1, M1.gd, E3n, M3.gd, thrown_of M3, c3]
    first | exact L | exact (if_pos trivial).trans L | exact (if_pos rfl).trans L
theorem case_2 (V : Inv B q h) (hq : q 0 = .inl (.int, N, .inl sc)) (hN : N ≤ 2048) (hP : Pri (0, q)) (hi : i + 4 ≤ N) (hb : B + 40 < 1000000000) : ∃ h1, f_L_case2 h 0 86 131 139 140 (w i) = some h1 ∧ Inv (B + 40) q h1 := by
  obtain ⟨C, OL, OD, g, K, c, sn, d1, d2, d3, t, l, n, e, I, M, T⟩ := V
  have a1 : ∀ {p : PH}, Cst q p → alI .int p 0 (w i + (1 : Int32)) = some (sc (i + 1)) := fun C1 => scr_at C1 hq hN (j := 1) (by omega)
  have a2 : ∀ {p : PH}, Cst q p → alI .int p 0 (w i + (2 : Int32)) = some (sc (i + 2)) := fun C1 => scr_at C1 hq hN (j := 2) (by omega)
  rcases chg (k := 2) (x := (sc (i + 1))) (y := (sc (i + 2))) (z := (0 : Int32)) C OL OD I M T (C.pri hP) hb (by decide) (fun p => f_X10_uncite p 131 (sc (i + 1)) (sc (i + 2))) (fun p Mp O A => mr_2 O Mp A) with ⟨v0, h1, E1, h2, W, h3, e3, E3, M2, M3, c3, V3, C2, L⟩ | ⟨v0, h1, E1, h3, e3, E3, M1, M3, c3, V3, C1, L⟩
  · have E1n : f_X9_change h 86 (2 : Int32) (sc (i + 1)) (sc (i + 2)) (0 : Int32) = some (Sum.inr (an g 2 (sc (i + 1)) (sc (i + 2))), h1) := E1
    have E3n : f_X10_uncite h2 131 (sc (i + 1)) (sc (i + 2)) = some (an g 2 (sc (i + 1)) (sc (i + 2)), h3) := E3
    refine ⟨h3, ?_, V3⟩
    unfold f_L_case2 f_L_uncite f_X9_uncite
    simp only [a1 C, a2 C, Option.bind_some, I.gd, E1n, Sum.elim_inr, W, a1 C2, a2 C2, M2.gd, E3n, M3.gd, thrown_of M3, c3]
    first | exact L | exact (if_pos trivial).trans L | exact (if_pos rfl).trans L
  · have E1n : f_X9_change h 86 (2 : Int32) (sc (i + 1)) (sc (i + 2)) (0 : Int32) = some (Sum.inl (xs (ju g 2 (sc (i + 1)) (sc (i + 2)) (0 : Int32))), h1) := E1
    have E3n : f_X10_uncite h1 131 (sc (i + 1)) (sc (i + 2)) = some (0, h3) := E3
    have EW : f_L_uncite h 86 (sc (i + 1)) (sc (i + 2)) 139 = some (cd 2 (ju g 2 (sc (i + 1)) (sc (i + 2)) (0 : Int32)), h1) := by
      unfold f_L_uncite f_X9_uncite
      simp only [I.gd, Option.bind_some, E1n, Sum.elim_inl]
      have hv : ju g 2 (sc (i + 1)) (sc (i + 2)) (0 : Int32) = -1 ∨ ju g 2 (sc (i + 1)) (sc (i + 2)) (0 : Int32) = -2 ∨ ju g 2 (sc (i + 1)) (sc (i + 2)) (0 : Int32) = 5 := by
        rw [ju_2] at v0 ⊢
        rcases jv_C g (sc (i + 1)) (sc (i + 2)) 1 with z | z | z | ⟨z, -⟩
        · exact absurd z v0
        · exact Or.inl z
        · exact Or.inr (Or.inl z)
        · exact Or.inr (Or.inr (z))
      rcases hv with hv | hv | hv <;> rw [hv] <;> simp [xs, cd]
    refine ⟨h3, ?_, V3⟩
    unfold f_L_case2
    simp only [a1 C, a2 C, Option.bind_some, EW, a1 C1, a2 C1, M1.gd, E3n, M3.gd, thrown_of M3, c3]
    first | exact L | exact (if_pos trivial).trans L | exact (if_pos rfl).trans L
theorem case_16 (V : Inv B q h) (hq : q 0 = .inl (.int, N, .inl sc)) (hN : N ≤ 2048) (hP : Pri (0, q)) (hi : i + 4 ≤ N) (hb : B + 40 < 1000000000) : ∃ h1, f_L_case16 h 0 86 131 139 140 (w i) = some h1 ∧ Inv (B + 40) q h1 := by
  obtain ⟨C, OL, OD, g, K, c, sn, d1, d2, d3, t, l, n, e, I, M, T⟩ := V
  have a1 : ∀ {p : PH}, Cst q p → alI .int p 0 (w i + (1 : Int32)) = some (sc (i + 1)) := fun C1 => scr_at C1 hq hN (j := 1) (by omega)
  have a2 : ∀ {p : PH}, Cst q p → alI .int p 0 (w i + (2 : Int32)) = some (sc (i + 2)) := fun C1 => scr_at C1 hq hN (j := 2) (by omega)
  rcases chg (k := 3) (x := (sc (i + 1))) (y := (sc (i + 2))) (z := (0 : Int32)) C OL OD I M T (C.pri hP) hb (by decide) (fun p => f_X10_setCurrent p 131 (sc (i + 1)) (sc (i + 2))) (fun p Mp O A => mr_3 O Mp A) with ⟨v0, h1, E1, h2, W, h3, e3, E3, M2, M3, c3, V3, C2, L⟩ | ⟨v0, h1, E1, h3, e3, E3, M1, M3, c3, V3, C1, L⟩
  · have E1n : f_X9_change h 86 (3 : Int32) (sc (i + 1)) (sc (i + 2)) (0 : Int32) = some (Sum.inr (an g 3 (sc (i + 1)) (sc (i + 2))), h1) := E1
    have E3n : f_X10_setCurrent h2 131 (sc (i + 1)) (sc (i + 2)) = some (an g 3 (sc (i + 1)) (sc (i + 2)), h3) := E3
    refine ⟨h3, ?_, V3⟩
    unfold f_L_case16 f_L_setCurrent f_X9_setCurrent
    simp only [a1 C, a2 C, Option.bind_some, I.gd, E1n, Sum.elim_inr, W, a1 C2, a2 C2, M2.gd, E3n, M3.gd, thrown_of M3, c3]
    first | exact L | exact (if_pos trivial).trans L | exact (if_pos rfl).trans L
  · have E1n : f_X9_change h 86 (3 : Int32) (sc (i + 1)) (sc (i + 2)) (0 : Int32) = some (Sum.inl (xs (ju g 3 (sc (i + 1)) (sc (i + 2)) (0 : Int32))), h1) := E1
    have E3n : f_X10_setCurrent h1 131 (sc (i + 1)) (sc (i + 2)) = some (0, h3) := E3
    have EW : f_L_setCurrent h 86 (sc (i + 1)) (sc (i + 2)) 139 = some (cd 3 (ju g 3 (sc (i + 1)) (sc (i + 2)) (0 : Int32)), h1) := by
      unfold f_L_setCurrent f_X9_setCurrent
      simp only [I.gd, Option.bind_some, E1n, Sum.elim_inl]
      have hv : ju g 3 (sc (i + 1)) (sc (i + 2)) (0 : Int32) = -1 := by
        rcases jv_3 (x := (sc (i + 1))) (y := (sc (i + 2))) (z := (0 : Int32)) g with z | z
        · exact absurd z v0
        · exact z
      rw [hv]
      simp [xs, cd]
    refine ⟨h3, ?_, V3⟩
    unfold f_L_case16
    simp only [a1 C, a2 C, Option.bind_some, EW, a1 C1, a2 C1, M1.gd, E3n, M3.gd, thrown_of M3, c3]
    first | exact L | exact (if_pos trivial).trans L | exact (if_pos rfl).trans L
theorem case_17 (V : Inv B q h) (hq : q 0 = .inl (.int, N, .inl sc)) (hN : N ≤ 2048) (hP : Pri (0, q)) (hi : i + 4 ≤ N) (hb : B + 40 < 1000000000) : ∃ h1, f_L_case17 h 0 86 131 139 140 (w i) = some h1 ∧ Inv (B + 40) q h1 := by
  obtain ⟨C, OL, OD, g, K, c, sn, d1, d2, d3, t, l, n, e, I, M, T⟩ := V
  have a1 : ∀ {p : PH}, Cst q p → alI .int p 0 (w i + (1 : Int32)) = some (sc (i + 1)) := fun C1 => scr_at C1 hq hN (j := 1) (by omega)
  have a2 : ∀ {p : PH}, Cst q p → alI .int p 0 (w i + (2 : Int32)) = some (sc (i + 2)) := fun C1 => scr_at C1 hq hN (j := 2) (by omega)
  rcases chg (k := 7) (x := (sc (i + 1))) (y := (sc (i + 2))) (z := (0 : Int32)) C OL OD I M T (C.pri hP) hb (by decide) (fun p => f_X10_setQuota p 131 (sc (i + 1)) (sc (i + 2))) (fun p Mp O A => mr_7 O Mp A) with ⟨v0, h1, E1, h2, W, h3, e3, E3, M2, M3, c3, V3, C2, L⟩ | ⟨v0, h1, E1, h3, e3, E3, M1, M3, c3, V3, C1, L⟩
  · have E1n : f_X9_change h 86 (7 : Int32) (sc (i + 1)) (sc (i + 2)) (0 : Int32) = some (Sum.inr (an g 7 (sc (i + 1)) (sc (i + 2))), h1) := E1
    have E3n : f_X10_setQuota h2 131 (sc (i + 1)) (sc (i + 2)) = some (an g 7 (sc (i + 1)) (sc (i + 2)), h3) := E3
    refine ⟨h3, ?_, V3⟩
    unfold f_L_case17 f_L_setQuota f_X9_setQuota
    simp only [a1 C, a2 C, Option.bind_some, I.gd, E1n, Sum.elim_inr, W, a1 C2, a2 C2, M2.gd, E3n, M3.gd, thrown_of M3, c3]
    first | exact L | exact (if_pos trivial).trans L | exact (if_pos rfl).trans L
  · have E1n : f_X9_change h 86 (7 : Int32) (sc (i + 1)) (sc (i + 2)) (0 : Int32) = some (Sum.inl (xs (ju g 7 (sc (i + 1)) (sc (i + 2)) (0 : Int32))), h1) := E1
    have E3n : f_X10_setQuota h1 131 (sc (i + 1)) (sc (i + 2)) = some (0, h3) := E3
    have EW : f_L_setQuota h 86 (sc (i + 1)) (sc (i + 2)) 139 = some (cd 7 (ju g 7 (sc (i + 1)) (sc (i + 2)) (0 : Int32)), h1) := by
      unfold f_L_setQuota f_X9_setQuota
      simp only [I.gd, Option.bind_some, E1n, Sum.elim_inl]
      have hv : ju g 7 (sc (i + 1)) (sc (i + 2)) (0 : Int32) = -1 := by
        rcases jv_7 (x := (sc (i + 1))) (y := (sc (i + 2))) (z := (0 : Int32)) g with z | z
        · exact absurd z v0
        · exact z
      rw [hv]
      simp [xs, cd]
    refine ⟨h3, ?_, V3⟩
    unfold f_L_case17
    simp only [a1 C, a2 C, Option.bind_some, EW, a1 C1, a2 C1, M1.gd, E3n, M3.gd, thrown_of M3, c3]
    first | exact L | exact (if_pos trivial).trans L | exact (if_pos rfl).trans L
theorem case_22 (V : Inv B q h) (hq : q 0 = .inl (.int, N, .inl sc)) (hN : N ≤ 2048) (hP : Pri (0, q)) (hi : i + 4 ≤ N) (hb : B + 40 < 1000000000) : ∃ h1, f_L_case22 h 0 86 131 139 140 (w i) = some h1 ∧ Inv (B + 40) q h1 := by
  obtain ⟨C, OL, OD, g, K, c, sn, d1, d2, d3, t, l, n, e, I, M, T⟩ := V
  have a1 : ∀ {p : PH}, Cst q p → alI .int p 0 (w i + (1 : Int32)) = some (sc (i + 1)) := fun C1 => scr_at C1 hq hN (j := 1) (by omega)
  have a2 : ∀ {p : PH}, Cst q p → alI .int p 0 (w i + (2 : Int32)) = some (sc (i + 2)) := fun C1 => scr_at C1 hq hN (j := 2) (by omega)
  have a3 : ∀ {p : PH}, Cst q p → alI .int p 0 (w i + (3 : Int32)) = some (sc (i + 3)) := fun C1 => scr_at C1 hq hN (j := 3) (by omega)
  rcases chg (k := 4) (x := (sc (i + 1))) (y := (sc (i + 2))) (z := (sc (i + 3))) C OL OD I M T (C.pri hP) hb (by decide) (fun p => f_X10_addNet p 131 (sc (i + 1)) (sc (i + 2)) (sc (i + 3))) (fun p Mp O A => mr_4 O Mp A) with ⟨v0, h1, E1, h2, W, h3, e3, E3, M2, M3, c3, V3, C2, L⟩ | ⟨v0, h1, E1, h3, e3, E3, M1, M3, c3, V3, C1, L⟩
  · have E1n : f_X9_change h 86 (4 : Int32) (sc (i + 1)) (sc (i + 2)) (sc (i + 3)) = some (Sum.inr (an g 4 (sc (i + 1)) (sc (i + 2))), h1) := E1
    have E3n : f_X10_addNet h2 131 (sc (i + 1)) (sc (i + 2)) (sc (i + 3)) = some (an g 4 (sc (i + 1)) (sc (i + 2)), h3) := E3
    refine ⟨h3, ?_, V3⟩
    unfold f_L_case22 f_L_addNet f_X9_addNet
    simp only [a1 C, a2 C, a3 C, Option.bind_some, I.gd, E1n, Sum.elim_inr, W, a1 C2, a2 C2, a3 C2, M2.gd, E3n, M3.gd, thrown_of M3, c3]
    first | exact L | exact (if_pos trivial).trans L | exact (if_pos rfl).trans L
  · have E1n : f_X9_change h 86 (4 : Int32) (sc (i + 1)) (sc (i + 2)) (sc (i + 3)) = some (Sum.inl (xs (ju g 4 (sc (i + 1)) (sc (i + 2)) (sc (i + 3)))), h1) := E1
    have E3n : f_X10_addNet h1 131 (sc (i + 1)) (sc (i + 2)) (sc (i + 3)) = some (0, h3) := E3
    have EW : f_L_addNet h 86 (sc (i + 1)) (sc (i + 2)) (sc (i + 3)) 139 = some (cd 4 (ju g 4 (sc (i + 1)) (sc (i + 2)) (sc (i + 3))), h1) := by
      unfold f_L_addNet f_X9_addNet
      simp only [I.gd, Option.bind_some, E1n, Sum.elim_inl]
      have hv : ju g 4 (sc (i + 1)) (sc (i + 2)) (sc (i + 3)) = -1 ∨ ju g 4 (sc (i + 1)) (sc (i + 2)) (sc (i + 3)) = 1 := by
        rcases jv_4 (x := (sc (i + 1))) (y := (sc (i + 2))) (z := (sc (i + 3))) g with z | z | z
        · exact absurd z v0
        · exact Or.inl z
        · exact Or.inr (z)
      rcases hv with hv | hv <;> rw [hv] <;> simp [xs, cd]
    refine ⟨h3, ?_, V3⟩
    unfold f_L_case22
    simp only [a1 C, a2 C, a3 C, Option.bind_some, EW, a1 C1, a2 C1, a3 C1, M1.gd, E3n, M3.gd, thrown_of M3, c3]
    first | exact L | exact (if_pos trivial).trans L | exact (if_pos rfl).trans L
theorem case_23 (V : Inv B q h) (hq : q 0 = .inl (.int, N, .inl sc)) (hN : N ≤ 2048) (hP : Pri (0, q)) (hi : i + 4 ≤ N) (hb : B + 40 < 1000000000) : ∃ h1, f_L_case23 h 0 86 131 139 140 (w i) = some h1 ∧ Inv (B + 40) q h1 := by
  obtain ⟨C, OL, OD, g, K, c, sn, d1, d2, d3, t, l, n, e, I, M, T⟩ := V
  have a1 : ∀ {p : PH}, Cst q p → alI .int p 0 (w i + (1 : Int32)) = some (sc (i + 1)) := fun C1 => scr_at C1 hq hN (j := 1) (by omega)
  rcases chg (k := 5) (x := (sc (i + 1))) (y := (0 : Int32)) (z := (0 : Int32)) C OL OD I M T (C.pri hP) hb (by decide) (fun p => f_X10_removeNet p 131 (sc (i + 1))) (fun p Mp O A => mr_5 O Mp A) with ⟨v0, h1, E1, h2, W, h3, e3, E3, M2, M3, c3, V3, C2, L⟩ | ⟨v0, h1, E1, h3, e3, E3, M1, M3, c3, V3, C1, L⟩
  · have E1n : f_X9_change h 86 (5 : Int32) (sc (i + 1)) (0 : Int32) (0 : Int32) = some (Sum.inr (an g 5 (sc (i + 1)) (0 : Int32)), h1) := E1
    have E3n : f_X10_removeNet h2 131 (sc (i + 1)) = some (an g 5 (sc (i + 1)) (0 : Int32), h3) := E3
    refine ⟨h3, ?_, V3⟩
    unfold f_L_case23 f_L_removeNet f_X9_removeNet
    simp only [a1 C, Option.bind_some, I.gd, E1n, Sum.elim_inr, W, a1 C2, M2.gd, E3n, M3.gd, thrown_of M3, c3]
    first | exact L | exact (if_pos trivial).trans L | exact (if_pos rfl).trans L
  · have E1n : f_X9_change h 86 (5 : Int32) (sc (i + 1)) (0 : Int32) (0 : Int32) = some (Sum.inl (xs (ju g 5 (sc (i + 1)) (0 : Int32) (0 : Int32))), h1) := E1
    have E3n : f_X10_removeNet h1 131 (sc (i + 1)) = some (0, h3) := E3
    have EW : f_L_removeNet h 86 (sc (i + 1)) 139 = some (cd 5 (ju g 5 (sc (i + 1)) (0 : Int32) (0 : Int32)), h1) := by
      unfold f_L_removeNet f_X9_removeNet
      simp only [I.gd, Option.bind_some, E1n, Sum.elim_inl]
      have hv : ju g 5 (sc (i + 1)) (0 : Int32) (0 : Int32) = -3 := by
        rcases jv_5 (x := (sc (i + 1))) (y := (0 : Int32)) (z := (0 : Int32)) g with z | ⟨z, -⟩
        · exact absurd z v0
        · exact z
      rw [hv]
      simp [xs, cd]
    refine ⟨h3, ?_, V3⟩
    unfold f_L_case23
    simp only [a1 C, Option.bind_some, EW, a1 C1, M1.gd, E3n, M3.gd, thrown_of M3, c3]
    first | exact L | exact (if_pos trivial).trans L | exact (if_pos rfl).trans L
theorem case_24 (V : Inv B q h) (hq : q 0 = .inl (.int, N, .inl sc)) (hN : N ≤ 2048) (hP : Pri (0, q)) (hi : i + 4 ≤ N) (hb : B + 40 < 1000000000) : ∃ h1, f_L_case24 h 0 86 131 139 140 (w i) = some h1 ∧ Inv (B + 40) q h1 := by
  obtain ⟨C, OL, OD, g, K, c, sn, d1, d2, d3, t, l, n, e, I, M, T⟩ := V
  have a1 : ∀ {p : PH}, Cst q p → alI .int p 0 (w i + (1 : Int32)) = some (sc (i + 1)) := fun C1 => scr_at C1 hq hN (j := 1) (by omega)
  rcases chg (k := 6) (x := (sc (i + 1))) (y := (0 : Int32)) (z := (0 : Int32)) C OL OD I M T (C.pri hP) hb (by decide) (fun p => f_X10_haul p 131 (sc (i + 1))) (fun p Mp O A => mr_6 O Mp A) with ⟨v0, h1, E1, h2, W, h3, e3, E3, M2, M3, c3, V3, C2, L⟩ | ⟨v0, h1, E1, h3, e3, E3, M1, M3, c3, V3, C1, L⟩
  · have E1n : f_X9_change h 86 (6 : Int32) (sc (i + 1)) (0 : Int32) (0 : Int32) = some (Sum.inr (an g 6 (sc (i + 1)) (0 : Int32)), h1) := E1
    have E3n : f_X10_haul h2 131 (sc (i + 1)) = some (an g 6 (sc (i + 1)) (0 : Int32), h3) := E3
    refine ⟨h3, ?_, V3⟩
    unfold f_L_case24 f_L_haul f_X9_haul
    simp only [a1 C, Option.bind_some, I.gd, E1n, Sum.elim_inr, W, a1 C2, M2.gd, E3n, M3.gd, thrown_of M3, c3]
    first | exact L | exact (if_pos trivial).trans L | exact (if_pos rfl).trans L
  · have E1n : f_X9_change h 86 (6 : Int32) (sc (i + 1)) (0 : Int32) (0 : Int32) = some (Sum.inl (xs (ju g 6 (sc (i + 1)) (0 : Int32) (0 : Int32))), h1) := E1
    have E3n : f_X10_haul h1 131 (sc (i + 1)) = some (0, h3) := E3
    have EW : f_L_haul h 86 (sc (i + 1)) 139 = some (cd 6 (ju g 6 (sc (i + 1)) (0 : Int32) (0 : Int32)), h1) := by
      unfold f_L_haul f_X9_haul
      simp only [I.gd, Option.bind_some, E1n, Sum.elim_inl]
      have hv : ju g 6 (sc (i + 1)) (0 : Int32) (0 : Int32) = -3 ∨ ju g 6 (sc (i + 1)) (0 : Int32) (0 : Int32) = 2 ∨ ju g 6 (sc (i + 1)) (0 : Int32) (0 : Int32) = 3 := by
        rcases jv_6 (x := (sc (i + 1))) (y := (0 : Int32)) (z := (0 : Int32)) I.ok with z | ⟨z, -⟩ | ⟨z, -⟩ | ⟨z, -⟩
        · exact absurd z v0
        · exact Or.inl z
        · exact Or.inr (Or.inl z)
        · exact Or.inr (Or.inr (z))
      rcases hv with hv | hv | hv <;> rw [hv] <;> simp [xs, cd]
    refine ⟨h3, ?_, V3⟩
    unfold f_L_case24
    simp only [a1 C, Option.bind_some, EW, a1 C1, M1.gd, E3n, M3.gd, thrown_of M3, c3]
    first | exact L | exact (if_pos trivial).trans L | exact (if_pos rfl).trans L
theorem case_29 (V : Inv B q h) (hq : q 0 = .inl (.int, N, .inl sc)) (hN : N ≤ 2048) (hP : Pri (0, q)) (hi : i + 4 ≤ N) (hb : B + 40 < 1000000000) : ∃ h1, f_L_case29 h 0 86 131 139 140 (w i) = some h1 ∧ Inv (B + 40) q h1 := by
  obtain ⟨C, OL, OD, g, K, c, sn, d1, d2, d3, t, l, n, e, I, M, T⟩ := V
  rcases chg (k := 8) (x := (0 : Int32)) (y := (0 : Int32)) (z := (0 : Int32)) C OL OD I M T (C.pri hP) hb (by decide) (fun p => f_X10_land p 131) (fun p Mp O A => mr_8 O Mp A) with ⟨v0, h1, E1, h2, W, h3, e3, E3, M2, M3, c3, V3, C2, L⟩ | ⟨v0, h1, E1, h3, e3, E3, M1, M3, c3, V3, C1, L⟩
  · have E1n : f_X9_change h 86 (8 : Int32) (0 : Int32) (0 : Int32) (0 : Int32) = some (Sum.inr (an g 8 (0 : Int32) (0 : Int32)), h1) := E1
    have E3n : f_X10_land h2 131 = some (an g 8 (0 : Int32) (0 : Int32), h3) := E3
    refine ⟨h3, ?_, V3⟩
    unfold f_L_case29 f_L_land f_X9_land
    simp only [Option.bind_some, I.gd, E1n, Sum.elim_inr, W, M2.gd, E3n, M3.gd, thrown_of M3, c3]
    first | exact L | exact (if_pos trivial).trans L | exact (if_pos rfl).trans L
  · have E1n : f_X9_change h 86 (8 : Int32) (0 : Int32) (0 : Int32) (0 : Int32) = some (Sum.inl (xs (ju g 8 (0 : Int32) (0 : Int32) (0 : Int32))), h1) := E1
    have E3n : f_X10_land h1 131 = some (0, h3) := E3
    have EW : f_L_land h 86 139 = some (cd 8 (ju g 8 (0 : Int32) (0 : Int32) (0 : Int32)), h1) := by
      unfold f_L_land f_X9_land
      simp only [I.gd, Option.bind_some, E1n, Sum.elim_inl]
      have hv : ju g 8 (0 : Int32) (0 : Int32) (0 : Int32) = 7 := by
        rcases jv_8 (x := (0 : Int32)) (y := (0 : Int32)) (z := (0 : Int32)) g with z | ⟨z, -⟩
        · exact absurd z v0
        · exact z
      rw [hv]
      simp [xs, cd]
    refine ⟨h3, ?_, V3⟩
    unfold f_L_case29
    simp only [Option.bind_some, EW, M1.gd, E3n, M3.gd, thrown_of M3, c3]
    first | exact L | exact (if_pos trivial).trans L | exact (if_pos rfl).trans L
theorem case_30 (V : Inv B q h) (hq : q 0 = .inl (.int, N, .inl sc)) (hN : N ≤ 2048) (hP : Pri (0, q)) (hi : i + 4 ≤ N) (hb : B + 40 < 1000000000) : ∃ h1, f_L_case30 h 0 86 131 139 140 (w i) = some h1 ∧ Inv (B + 40) q h1 := by
  obtain ⟨C, OL, OD, g, K, c, sn, d1, d2, d3, t, l, n, e, I, M, T⟩ := V
  have a1 : ∀ {p : PH}, Cst q p → alI .int p 0 (w i + (1 : Int32)) = some (sc (i + 1)) := fun C1 => scr_at C1 hq hN (j := 1) (by omega)
  rcases chg (k := 9) (x := (sc (i + 1))) (y := (0 : Int32)) (z := (0 : Int32)) C OL OD I M T (C.pri hP) hb (by decide) (fun p => f_X10_free p 131 (sc (i + 1))) (fun p Mp O A => mr_9 O Mp A) with ⟨v0, h1, E1, h2, W, h3, e3, E3, M2, M3, c3, V3, C2, L⟩ | ⟨v0, h1, E1, h3, e3, E3, M1, M3, c3, V3, C1, L⟩
  · have E1n : f_X9_change h 86 (9 : Int32) (sc (i + 1)) (0 : Int32) (0 : Int32) = some (Sum.inr (an g 9 (sc (i + 1)) (0 : Int32)), h1) := E1
    have E3n : f_X10_free h2 131 (sc (i + 1)) = some (an g 9 (sc (i + 1)) (0 : Int32), h3) := E3
    refine ⟨h3, ?_, V3⟩
    unfold f_L_case30 f_L_free f_X9_free
    simp only [a1 C, Option.bind_some, I.gd, E1n, Sum.elim_inr, W, a1 C2, M2.gd, E3n, M3.gd, thrown_of M3, c3]
    first | exact L | exact (if_pos trivial).trans L | exact (if_pos rfl).trans L
  · have E1n : f_X9_change h 86 (9 : Int32) (sc (i + 1)) (0 : Int32) (0 : Int32) = some (Sum.inl (xs (ju g 9 (sc (i + 1)) (0 : Int32) (0 : Int32))), h1) := E1
    have E3n : f_X10_free h1 131 (sc (i + 1)) = some (0, h3) := E3
    have EW : f_L_free h 86 (sc (i + 1)) 139 = some (cd 9 (ju g 9 (sc (i + 1)) (0 : Int32) (0 : Int32)), h1) := by
      unfold f_L_free f_X9_free
      simp only [I.gd, Option.bind_some, E1n, Sum.elim_inl]
      have hv : ju g 9 (sc (i + 1)) (0 : Int32) (0 : Int32) = -2 ∨ ju g 9 (sc (i + 1)) (0 : Int32) (0 : Int32) = 4 := by
        rcases jv_9 (x := (sc (i + 1))) (y := (0 : Int32)) (z := (0 : Int32)) I.ok with z | ⟨z, -⟩ | ⟨z, -⟩
        · exact absurd z v0
        · exact Or.inl z
        · exact Or.inr (z)
      rcases hv with hv | hv <;> rw [hv] <;> simp [xs, cd]
    refine ⟨h3, ?_, V3⟩
    unfold f_L_case30
    simp only [a1 C, Option.bind_some, EW, a1 C1, M1.gd, E3n, M3.gd, thrown_of M3, c3]
    first | exact L | exact (if_pos trivial).trans L | exact (if_pos rfl).trans L
theorem case_35 (V : Inv B q h) (hq : q 0 = .inl (.int, N, .inl sc)) (hN : N ≤ 2048) (hP : Pri (0, q)) (hi : i + 4 ≤ N) (hb : B + 40 < 1000000000) : ∃ h1, f_L_case35 h 0 86 131 139 140 (w i) = some h1 ∧ Inv (B + 40) q h1 := by
  obtain ⟨C, OL, OD, g, K, c, sn, d1, d2, d3, t, l, n, e, I, M, T⟩ := V
  rcases chg (k := 10) (x := (0 : Int32)) (y := (0 : Int32)) (z := (0 : Int32)) C OL OD I M T (C.pri hP) hb (by decide) (fun p => f_X10_buyLicence p 131) (fun p Mp O A => mr_10 O Mp A) with ⟨v0, h1, E1, h2, W, h3, e3, E3, M2, M3, c3, V3, C2, L⟩ | ⟨v0, h1, E1, h3, e3, E3, M1, M3, c3, V3, C1, L⟩
  · have E1n : f_X9_change h 86 (10 : Int32) (0 : Int32) (0 : Int32) (0 : Int32) = some (Sum.inr (an g 10 (0 : Int32) (0 : Int32)), h1) := E1
    have E3n : f_X10_buyLicence h2 131 = some (an g 10 (0 : Int32) (0 : Int32), h3) := E3
    refine ⟨h3, ?_, V3⟩
    unfold f_L_case35 f_L_buyLicence f_X9_buyLicence
    simp only [Option.bind_some, I.gd, E1n, Sum.elim_inr, W, M2.gd, E3n, M3.gd, thrown_of M3, c3]
    first | exact L | exact (if_pos trivial).trans L | exact (if_pos rfl).trans L
  · have E1n : f_X9_change h 86 (10 : Int32) (0 : Int32) (0 : Int32) (0 : Int32) = some (Sum.inl (xs (ju g 10 (0 : Int32) (0 : Int32) (0 : Int32))), h1) := E1
    have E3n : f_X10_buyLicence h1 131 = some (0, h3) := E3
    have EW : f_L_buyLicence h 86 139 = some (cd 10 (ju g 10 (0 : Int32) (0 : Int32) (0 : Int32)), h1) := by
      unfold f_L_buyLicence f_X9_buyLicence
      simp only [I.gd, Option.bind_some, E1n, Sum.elim_inl]
      have hv : ju g 10 (0 : Int32) (0 : Int32) (0 : Int32) = 6 ∨ ju g 10 (0 : Int32) (0 : Int32) (0 : Int32) = 8 := by
        rcases jv_10 (x := (0 : Int32)) (y := (0 : Int32)) (z := (0 : Int32)) g with z | z | z
        · exact absurd z v0
        · exact Or.inl z
        · exact Or.inr (z)
      rcases hv with hv | hv <;> rw [hv] <;> simp [xs, cd]
    refine ⟨h3, ?_, V3⟩
    unfold f_L_case35
    simp only [Option.bind_some, EW, M1.gd, E3n, M3.gd, thrown_of M3, c3]
    first | exact L | exact (if_pos trivial).trans L | exact (if_pos rfl).trans L
theorem case_36 (V : Inv B q h) (hq : q 0 = .inl (.int, N, .inl sc)) (hN : N ≤ 2048) (hP : Pri (0, q)) (hi : i + 4 ≤ N) (hb : B + 40 < 1000000000) : ∃ h1, f_L_case36 h 0 86 131 139 140 (w i) = some h1 ∧ Inv (B + 40) q h1 := by
  obtain ⟨C, OL, OD, g, K, c, sn, d1, d2, d3, t, l, n, e, I, M, T⟩ := V
  have a1 : ∀ {p : PH}, Cst q p → alI .int p 0 (w i + (1 : Int32)) = some (sc (i + 1)) := fun C1 => scr_at C1 hq hN (j := 1) (by omega)
  rcases chg (k := 11) (x := (sc (i + 1))) (y := (0 : Int32)) (z := (0 : Int32)) C OL OD I M T (C.pri hP) hb (by decide) (fun p => f_X10_pass p 131 (sc (i + 1))) (fun p Mp O A => mr_11 O Mp A hb) with ⟨v0, h1, E1, h2, W, h3, e3, E3, M2, M3, c3, V3, C2, L⟩ | ⟨v0, h1, E1, h3, e3, E3, M1, M3, c3, V3, C1, L⟩
  · have E1n : f_X9_change h 86 (11 : Int32) (sc (i + 1)) (0 : Int32) (0 : Int32) = some (Sum.inr (an g 11 (sc (i + 1)) (0 : Int32)), h1) := E1
    have E3n : f_X10_pass h2 131 (sc (i + 1)) = some (an g 11 (sc (i + 1)) (0 : Int32), h3) := E3
    refine ⟨h3, ?_, V3⟩
    unfold f_L_case36 f_L_pass f_X9_pass
    simp only [a1 C, Option.bind_some, I.gd, E1n, Sum.elim_inr, W, a1 C2, M2.gd, E3n, M3.gd, thrown_of M3, c3]
    first | exact L | exact (if_pos trivial).trans L | exact (if_pos rfl).trans L
  · have E1n : f_X9_change h 86 (11 : Int32) (sc (i + 1)) (0 : Int32) (0 : Int32) = some (Sum.inl (xs (ju g 11 (sc (i + 1)) (0 : Int32) (0 : Int32))), h1) := E1
    have E3n : f_X10_pass h1 131 (sc (i + 1)) = some (0, h3) := E3
    have EW : f_L_pass h 86 (sc (i + 1)) 139 = some (cd 11 (ju g 11 (sc (i + 1)) (0 : Int32) (0 : Int32)), h1) := by
      unfold f_L_pass f_X9_pass
      simp only [I.gd, Option.bind_some, E1n, Sum.elim_inl]
      have hv : ju g 11 (sc (i + 1)) (0 : Int32) (0 : Int32) = -1 := by
        rcases jv_11 (x := (sc (i + 1))) (y := (0 : Int32)) (z := (0 : Int32)) g with z | z
        · exact absurd z v0
        · exact z
      rw [hv]
      simp [xs, cd]
    refine ⟨h3, ?_, V3⟩
    unfold f_L_case36
    simp only [a1 C, Option.bind_some, EW, a1 C1, M1.gd, E3n, M3.gd, thrown_of M3, c3]
    first | exact L | exact (if_pos trivial).trans L | exact (if_pos rfl).trans L
end CASESC
