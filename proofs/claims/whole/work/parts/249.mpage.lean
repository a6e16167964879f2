/-! the reference's currents and quotas -/
section MPAGE
variable {B : Nat} {h h1 : PH} {m c : Nat} {e e1 : CS} {K : Nat → GS} {x y z : Int32}
theorem mcur_bad (M : MoC h m e) (q : ju (e 0) 3 x y z = -1) : ∃ h1, f_X10_setCurrent h m x y = some (0, h1) ∧ MoC h1 m (eF e 1) ∧ fr (mW m) h h1 := by
  obtain ⟨h1, e1, M1, F1⟩ := mfail1 M
  have J : f_X10_setCurrent_J21 h m x y m = some (0, h1) := by
    unfold f_X10_setCurrent_J21 f_X10_setCurrent_J22
    simp only [M.gd, e1, Option.bind_some, if_neg (show ¬ (true = false) by decide)]
  refine ⟨h1, ?_, M1, F1⟩
  unfold f_X10_setCurrent
  rw [ju_3] at q
  have ep : f_X10_isPage x = f_X9_isPage x := rfl
  have ei : f_X10_in y (-1) 1 = f_X9_isBetween y (-1) 1 := rfl
  rw [ep, ei]
  by_cases c1 : f_X9_isPage x = false
  · rw [if_pos c1]; exact J
  · rw [if_neg c1] at q ⊢
    by_cases c2 : f_X9_isBetween y (-1) 1 = false
    · rw [if_pos c2]; exact J
    · rw [if_neg c2] at q; exact absurd q (by decide)
theorem mcur_ok (O : Ok B (e 0)) (M : MoC h m e) (A : KA e K c) (q : ju (e 0) 3 x y z = 0) : ∃ h1 e1, f_X10_setCurrent h m x y = some (an (e 0) 3 x y, h1) ∧ MoC h1 m (setR e1 0 (ef (e 0) 3 x y z)) ∧ KpO e K c (e 0) e1 ∧ fr (mW m) h h1 := by
  obtain ⟨p, rfl, h1, h2⟩ := need_3 q
  have ep : f_X10_isPage (w p) = f_X9_isPage (w p) := rfl
  have ei : f_X10_in y (-1) 1 = f_X9_isBetween y (-1) 1 := rfl
  have c1 : ¬ f_X9_isPage (w p) = false := by rw [page_iff.mpr ⟨p, h1, rfl⟩]; decide
  have c2 : ¬ f_X9_isBetween y (-1) 1 = false := by rw [(cur_iff.mpr h2)]; decide
  obtain ⟨x1, e1, M1, F1⟩ := mfail0 M
  have n1 : alI .int x1 (m + 1) ((8 : Int32) + w p) = some (e 0 (8 + p)) := by
    show alI .int x1 (m + 1) (w 8 + w p) = _
    rw [w_add, (mg0 O M1).a (by omega)]
  obtain ⟨x2, d2, e2, M2, A2, r2, F2⟩ := mkeep0 M1 A
  have M2' : MoC x2 m (setR d2 0 (e 0)) := by rw [← r2, setR_id]; exact M2
  obtain ⟨x3, e3, M3, F3⟩ := mput M2' (i := 8 + p) y (by omega)
  have e3' : asI .int x2 (m + 1) ((8 : Int32) + w p) y = some x3 := by
    show asI .int x2 (m + 1) (w 8 + w p) y = _
    rw [w_add]; exact e3
  refine ⟨x3, d2, ?_, ?_, A2, (F1.trans F2).trans F3⟩
  · unfold f_X10_setCurrent
    rw [ep, ei, if_neg c1, if_neg c2, an_3, nv_w (show p < 2147483648 by omega)]
    unfold f_X10_setCurrent_J22
    simp only [M.gd, e1, Option.bind_some, if_true, M1.r0, n1, M1.gd, e2, M2.r0, e3']
  · rw [ef_3, nv_w (show p < 2147483648 by omega)]
    exact M3
theorem mquo_bad (M : MoC h m e) (q : ju (e 0) 7 x y z = -1) : ∃ h1, f_X10_setQuota h m x y = some (0, h1) ∧ MoC h1 m (eF e 1) ∧ fr (mW m) h h1 := by
  obtain ⟨h1, e1, M1, F1⟩ := mfail1 M
  have J : f_X10_setQuota_J22 h m x y m = some (0, h1) := by
    unfold f_X10_setQuota_J22 f_X10_setQuota_J23
    simp only [M.gd, e1, Option.bind_some, if_neg (show ¬ (true = false) by decide)]
  refine ⟨h1, ?_, M1, F1⟩
  unfold f_X10_setQuota
  rw [ju_7] at q
  have ep : f_X10_isPage x = f_X9_isPage x := rfl
  have ei : f_X10_in y 0 99 = f_X9_isBetween y 0 99 := rfl
  rw [ep, ei]
  by_cases c1 : f_X9_isPage x = false
  · rw [if_pos c1]; exact J
  · rw [if_neg c1] at q ⊢
    by_cases c2 : f_X9_isBetween y 0 99 = false
    · rw [if_pos c2]; exact J
    · rw [if_neg c2] at q; exact absurd q (by decide)
theorem mquo_ok (O : Ok B (e 0)) (M : MoC h m e) (A : KA e K c) (q : ju (e 0) 7 x y z = 0) : ∃ h1 e1, f_X10_setQuota h m x y = some (an (e 0) 7 x y, h1) ∧ MoC h1 m (setR e1 0 (ef (e 0) 7 x y z)) ∧ KpO e K c (e 0) e1 ∧ fr (mW m) h h1 := by
  obtain ⟨p, t, rfl, rfl, h1, h2⟩ := need_7 q
  have ep : f_X10_isPage (w p) = f_X9_isPage (w p) := rfl
  have ei : f_X10_in (w t) 0 99 = f_X9_isBetween (w t) 0 99 := rfl
  have c1 : ¬ f_X9_isPage (w p) = false := by rw [page_iff.mpr ⟨p, h1, rfl⟩]; decide
  have c2 : ¬ f_X9_isBetween (w t) 0 99 = false := by
    have b : f_X9_isBetween (w t) 0 99 = true := (btw_iff (lo := 0) (hi := 99) (by decide) (by decide)).mpr ⟨t, by omega, h2, rfl⟩
    rw [b]; decide
  obtain ⟨x1, e1, M1, F1⟩ := mfail0 M
  have n1 : alI .int x1 (m + 1) ((20 : Int32) + w p) = some (e 0 (20 + p)) := by
    show alI .int x1 (m + 1) (w 20 + w p) = _
    rw [w_add, (mg0 O M1).a (by omega)]
  obtain ⟨x2, d2, e2, M2, A2, r2, F2⟩ := mkeep0 M1 A
  have M2' : MoC x2 m (setR d2 0 (e 0)) := by rw [← r2, setR_id]; exact M2
  obtain ⟨x3, e3, M3, F3⟩ := mput M2' (i := 20 + p) (w t) (by omega)
  have e3' : asI .int x2 (m + 1) ((20 : Int32) + w p) (w t) = some x3 := by
    show asI .int x2 (m + 1) (w 20 + w p) (w t) = _
    rw [w_add]; exact e3
  refine ⟨x3, d2, ?_, ?_, A2, (F1.trans F2).trans F3⟩
  · unfold f_X10_setQuota
    rw [ep, ei, if_neg c1, if_neg c2, an_7, nv_w (show p < 2147483648 by omega)]
    unfold f_X10_setQuota_J23
    simp only [M.gd, e1, Option.bind_some, if_true, M1.r0, n1, M1.gd, e2, M2.r0, e3']
  · rw [ef_7, nv_w (show p < 2147483648 by omega)]
    exact M3
end MPAGE
