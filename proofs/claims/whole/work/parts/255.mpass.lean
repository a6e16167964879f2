/-! the reference's days passed -/
section MPASS
variable {B : Nat} {h h1 : PH} {m c : Nat} {e e1 : CS} {K : Nat → GS} {x y z : Int32}
theorem mpass_bad (M : MoC h m e) (q : ju (e 0) 11 x y z = -1) : ∃ h1, f_X10_pass h m x = some (0, h1) ∧ MoC h1 m (eF e 1) ∧ fr (mW m) h h1 := by
  obtain ⟨h1, e1, M1, F1⟩ := mfail1 M
  refine ⟨h1, ?_, M1, F1⟩
  rw [ju_11] at q
  have ei : f_X10_in x 1 40 = f_X9_isBetween x 1 40 := rfl
  unfold f_X10_pass
  rw [ei]
  by_cases c1 : f_X9_isBetween x 1 40 = false
  · rw [if_pos c1]
    unfold f_X10_pass_J16
    simp only [M.gd, e1, Option.bind_some, if_neg (show ¬ (true = false) by decide)]
  · rw [if_neg c1] at q; exact absurd q (by decide)
theorem mpass_go (O : Ok B (e 0)) (M : MoC h m e) (A : KA e K c) (hb : B + 40 < 1000000000) (q : ju (e 0) 11 x y z = 0) : ∃ h1 e1, f_X10_pass h m x = some (an (e 0) 11 x y, h1) ∧ MoC h1 m (setR e1 0 (ef (e 0) 11 x y z)) ∧ KpO e K c (e 0) e1 ∧ fr (mW m) h h1 := by
  obtain ⟨n, rfl, n1, n2⟩ := need_11 q
  have ei : f_X10_in (w n) 1 40 = f_X9_isBetween (w n) 1 40 := rfl
  have b : f_X9_isBetween (w n) 1 40 = true := (btw_iff (lo := 1) (hi := 40) (by decide) (by decide)).mpr ⟨n, n1, n2, rfl⟩
  have c1 : ¬ f_X9_isBetween (w n) 1 40 = false := by rw [b]; decide
  obtain ⟨x1, e1, M1, F1⟩ := mfail0 M
  obtain ⟨x2, d2, e2, M2, A2, r2, F2⟩ := mkeep0 M1 A
  have H2 : Mr B x2 m d2 (e 0) := ⟨O, by rw [← r2, setR_id]; exact M2⟩
  obtain ⟨x3, e3, H3, F3⟩ := mpass_ok H2 n2 (by omega)
  refine ⟨x3, d2, ?_, ?_, A2, (F1.trans F2).trans F3⟩
  · unfold f_X10_pass
    rw [ei, if_neg c1, an_11, nv_w (show n < 2147483648 by omega)]
    unfold f_X10_pass_J16
    simp only [M.gd, e1, Option.bind_some, if_true, M1.r0, M1.gd, e2, e3]
  · rw [ef_11, nv_w (show n < 2147483648 by omega)]
    exact H3.2
end MPASS
