/-! the reference's citations -/
section MTURN
variable {B : Nat} {h h1 : PH} {m c : Nat} {e e1 : CS} {K : Nat → GS} {x y t v : Int32}
theorem eF_2 (e : CS) (p q : Int32) : eF (eF e p) q = eF e q := by
  funext j
  unfold eF setR
  by_cases j7 : j = 7
  · simp only [if_pos j7]
  · simp only [if_neg j7]
    by_cases j8 : j = 8
    · simp only [if_pos j8]
    · simp only [if_neg j8]
theorem mfailF (M : MoC h m (eF e x)) (p : Int32) (hp : 0 ≤ p) : ∃ h1, f_X10_fails h m p = some (!decide (p ≤ 0), h1) ∧ MoC h1 m (eF e p) ∧ fr (mW m) h h1 := by
  obtain ⟨h1, e1, M1, F1⟩ := mfails M p
  rw [eF_2] at M1
  exact ⟨h1, e1, M1, F1⟩
theorem mturn_none (O : Ok B (e 0)) (M : MoC h m e) (q : juC (e 0) x y t = -2) : ∃ h1, f_X10_turns h m x y v = some (0, h1) ∧ MoC h1 m (eF e 1) ∧ fr (mW m) h h1 := by
  have H : Mg B h m (e 0) := ⟨O, e, M, rfl⟩
  obtain ⟨h1, e1, M1, F1⟩ := mfail1 M
  have J : f_X10_areNone h m x y = some (true, h1) := by
    unfold f_X10_areNone
    simp only [M.gd, misNote H, Option.bind_some]
    unfold juC at q
    by_cases c1 : isN (e 0) x = false
    · rw [if_pos c1, e1]; rfl
    · rw [if_neg c1] at q ⊢
      by_cases c2 : isN (e 0) y = true
      · rw [if_pos c2] at q
        by_cases c3 : x = y
        · rw [if_pos c3] at q; exact absurd q (by decide)
        · rw [if_neg c3] at q
          by_cases c4 : zb ((gU (e 0) (nv x)).testBit (nv y)) = t
          · rw [if_pos c4] at q; exact absurd q (by decide)
          · rw [if_neg c4] at q; exact absurd q (by decide)
      · rw [if_pos (by simpa using c2), e1]; rfl
  refine ⟨h1, ?_, M1, F1⟩
  unfold f_X10_turns
  simp only [M.gd, J, Option.bind_some, if_true]
theorem mturn_both (O : Ok B (e 0)) (M : MoC h m e) (c1 : ¬ isN (e 0) x = false) (c2 : isN (e 0) y = true) : ∃ h1, f_X10_areNone h m x y = some (false, h1) ∧ MoC h1 m (eF e 0) ∧ fr (mW m) h h1 := by
  have H : Mg B h m (e 0) := ⟨O, e, M, rfl⟩
  obtain ⟨h1, e1, M1, F1⟩ := mfail0 M
  refine ⟨h1, ?_, M1, F1⟩
  unfold f_X10_areNone
  simp only [M.gd, misNote H, Option.bind_some]
  rw [if_neg c1, if_neg (by rw [c2]; decide), e1]; rfl
theorem mturn_same (O : Ok B (e 0)) (M : MoC h m e) (q : juC (e 0) x y t = -1) : ∃ h1, f_X10_turns h m x y v = some (0, h1) ∧ MoC h1 m (eF e 2) ∧ fr (mW m) h h1 := by
  unfold juC at q
  by_cases c1 : isN (e 0) x = false
  · rw [if_pos c1] at q; exact absurd q (by decide)
  · rw [if_neg c1] at q
    by_cases c2 : isN (e 0) y = true
    · rw [if_pos c2] at q
      by_cases c3 : x = y
      · obtain ⟨h1, e1, M1, F1⟩ := mturn_both O M c1 c2
        obtain ⟨h2, e2, M2, F2⟩ := mfailF M1 2 (by decide)
        have e2' : f_X10_fails h1 m (2 : Int32) = some (true, h2) := e2
        refine ⟨h2, ?_, M2, F1.trans F2⟩
        unfold f_X10_turns
        simp only [M.gd, e1, Option.bind_some, if_neg (show ¬ (false = true) by decide)]
        rw [if_neg (fun z => z c3)]
        unfold f_X10_turns_J20
        simp only [M1.gd, e2', Option.bind_some, if_neg (show ¬ (true = false) by decide)]
      · rw [if_neg c3] at q
        by_cases c4 : zb ((gU (e 0) (nv x)).testBit (nv y)) = t
        · rw [if_pos c4] at q; exact absurd q (by decide)
        · rw [if_neg c4] at q; exact absurd q (by decide)
    · rw [if_neg c2] at q; exact absurd q (by decide)
end MTURN
