/-! the reference's new nets -/
section MNET
variable {B : Nat} {h h1 : PH} {m c : Nat} {e e1 : CS} {K : Nat → GS} {x y z : Int32}
theorem mnet_bad (M : MoC h m e) (q : ju (e 0) 4 x y z = -1) : ∃ h1, f_X10_addNet h m x y z = some (0, h1) ∧ MoC h1 m (eF e 1) ∧ fr (mW m) h h1 := by
  obtain ⟨h1, e1, M1, F1⟩ := mfail1 M
  have J : f_X10_addNet_J32 h m x y z m = some (0, h1) := by
    unfold f_X10_addNet_J32 f_X10_addNet_J33
    simp only [M.gd, e1, Option.bind_some, if_neg (show ¬ (true = false) by decide)]
  refine ⟨h1, ?_, M1, F1⟩
  unfold f_X10_addNet
  rw [ju_4] at q
  have ep : f_X10_isPage x = f_X9_isPage x := rfl
  have ei : f_X10_in y 1 12 = f_X9_isBetween y 1 12 := rfl
  have ej : f_X10_in z 1 30 = f_X9_isBetween z 1 30 := rfl
  rw [ep, ei, ej]
  by_cases c1 : f_X9_isPage x = false
  · rw [if_pos c1]; exact J
  · rw [if_neg c1] at q ⊢
    by_cases c2 : f_X9_isBetween y 1 12 = false
    · rw [if_pos c2]; exact J
    · rw [if_neg c2] at q ⊢
      by_cases c3 : f_X9_isBetween z 1 30 = true
      · rw [if_pos c3] at q
        by_cases c4 : gM (e 0) < 5
        · rw [if_pos c4] at q; exact absurd q (by decide)
        · rw [if_neg c4] at q; exact absurd q (by decide)
      · rw [if_pos (by simpa using c3)]; exact J
theorem mnet_full (O : Ok B (e 0)) (M : MoC h m e) (q : ju (e 0) 4 x y z = 1) : ∃ h1, f_X10_addNet h m x y z = some (0, h1) ∧ MoC h1 m (eDn (eF e 0) 2 1 5) ∧ fr (mW m) h h1 := by
  have hm := O.m
  rw [ju_4] at q
  have ep : f_X10_isPage x = f_X9_isPage x := rfl
  have ei : f_X10_in y 1 12 = f_X9_isBetween y 1 12 := rfl
  have ej : f_X10_in z 1 30 = f_X9_isBetween z 1 30 := rfl
  obtain ⟨h1, e1, M1, F1⟩ := mfail0 M
  obtain ⟨h2, e2, M2, F2⟩ := mdenies M1 2 1 5
  refine ⟨h2, ?_, M2, F1.trans F2⟩
  unfold f_X10_addNet
  rw [ep, ei, ej]
  by_cases c1 : f_X9_isPage x = false
  · rw [if_pos c1] at q; exact absurd q (by decide)
  · rw [if_neg c1] at q ⊢
    by_cases c2 : f_X9_isBetween y 1 12 = false
    · rw [if_pos c2] at q; exact absurd q (by decide)
    · rw [if_neg c2] at q ⊢
      by_cases c3 : f_X9_isBetween z 1 30 = true
      · rw [if_pos c3] at q
        by_cases c4 : gM (e 0) < 5
        · rw [if_pos c4] at q; exact absurd q (by decide)
        · have e5 : gM (e 0) = 5 := by omega
          have n1 := (mg0 O M1).n1
          rw [e5] at n1
          have c5 : ¬ ¬ w 5 = (5 : Int32) := fun z => z rfl
          rw [if_neg (by rw [c3]; decide)]
          unfold f_X10_addNet_J33
          simp only [M.gd, e1, Option.bind_some, if_true, M1.r0, n1, if_neg c5, M1.gd, e2]
      · rw [if_neg c3] at q; exact absurd q (by decide)
theorem mnet_ok (O : Ok B (e 0)) (M : MoC h m e) (A : KA e K c) (q : ju (e 0) 4 x y z = 0) : ∃ h1 e1, f_X10_addNet h m x y z = some (an (e 0) 4 x y, h1) ∧ MoC h1 m (setR e1 0 (ef (e 0) 4 x y z)) ∧ KpO e K c (e 0) e1 ∧ fr (mW m) h h1 := by
  obtain ⟨p, s, t, rfl, rfl, rfl, h1, h2, h3, h4, h5, h7⟩ := need_4 q
  have ep : f_X10_isPage (w p) = f_X9_isPage (w p) := rfl
  have ei : f_X10_in (w s) 1 12 = f_X9_isBetween (w s) 1 12 := rfl
  have ej : f_X10_in (w t) 1 30 = f_X9_isBetween (w t) 1 30 := rfl
  have c1 : ¬ f_X9_isPage (w p) = false := by rw [page_iff.mpr ⟨p, h1, rfl⟩]; decide
  have b2 : f_X9_isBetween (w s) 1 12 = true := (btw_iff (lo := 1) (hi := 12) (by decide) (by decide)).mpr ⟨s, h2, h3, rfl⟩
  have c2 : ¬ f_X9_isBetween (w s) 1 12 = false := by rw [b2]; decide
  have b3 : f_X9_isBetween (w t) 1 30 = true := (btw_iff (lo := 1) (hi := 30) (by decide) (by decide)).mpr ⟨t, h4, h5, rfl⟩
  have c3 : ¬ f_X9_isBetween (w t) 1 30 = false := by rw [b3]; decide
  obtain ⟨x1, e1, M1, F1⟩ := mfail0 M
  have n1 := (mg0 O M1).n1
  obtain ⟨x2, d2, e2, M2, A2, r2, F2⟩ := mkeep0 M1 A
  have M2' : MoC x2 m (setR d2 0 (e 0)) := by rw [← r2, setR_id]; exact M2
  have n2 : alI .int x2 (m + 1) (1 : Int32) = some (w (gM (e 0))) := by
    have := M2.a0 (k := 1) (by decide)
    rw [r2, O.g1] at this
    exact this
  obtain ⟨x3, e3, M3, F3⟩ := mput M2' (i := 84 + 3 * gM (e 0) + 0) (w p) (by omega)
  obtain ⟨x4, e4, M4, F4⟩ := mput M3 (i := 84 + 3 * gM (e 0) + 1) (w s) (by omega)
  obtain ⟨x5, e5, M5, F5⟩ := mput M4 (i := 84 + 3 * gM (e 0) + 2) (w t) (by omega)
  obtain ⟨x6, e6, M6, F6⟩ := mput M5 (i := 1) (w (gM (e 0)) + 1) (by decide)
  have n5 : alI .int x5 (m + 1) (1 : Int32) = some (w (gM (e 0))) := by
    have := M5.a0 (k := 1) (by decide)
    rw [setR_0, upd_ne (by omega), upd_ne (by omega), upd_ne (by omega), O.g1] at this
    exact this
  have n6 : alI .int x6 (m + 1) (1 : Int32) = some (w (gM (e 0)) + 1) := by
    have := M6.a0 (k := 1) (by decide)
    rw [setR_0, upd_eq] at this
    exact this
  have c4 : ¬ w (gM (e 0)) = (5 : Int32) := fun z => by
    have := (w_inj (a := gM (e 0)) (b := 5) (by omega) (by decide)).mp z
    omega
  have i0 : ((84 : Int32) + ((3 : Int32) * w (gM (e 0)))) + (0 : Int32) = w (84 + 3 * gM (e 0) + 0) := by_ix _ 0
  have i1 : ((84 : Int32) + ((3 : Int32) * w (gM (e 0)))) + (1 : Int32) = w (84 + 3 * gM (e 0) + 1) := by_ix _ 1
  have i2 : ((84 : Int32) + ((3 : Int32) * w (gM (e 0)))) + (2 : Int32) = w (84 + 3 * gM (e 0) + 2) := by_ix _ 2
  have e6' : asI .int x5 (m + 1) (1 : Int32) (w (gM (e 0)) + 1) = some x6 := e6
  have el : w (gM (e 0)) + (1 : Int32) - (1 : Int32) = w (gM (e 0)) := by
    rw [w_succ]; exact w_sub (b := 1) (by omega)
  refine ⟨x6, d2, ?_, ?_, A2, ((((F1.trans F2).trans F3).trans F4).trans F5).trans F6⟩
  · unfold f_X10_addNet
    rw [ep, ei, ej, if_neg c1, if_neg c2, if_neg c3, an_4]
    unfold f_X10_addNet_J33
    simp only [M.gd, e1, Option.bind_some, if_true, M1.r0, n1, M1.gd, e2, M2.r0, n2, i0, i1, i2, e3, M3.r0, e4, M4.r0, e5, M5.r0, n5, e6', M6.r0, n6, el]
    rw [if_pos c4]
  · rw [ef_4]
    have : eNet (e 0) (w p) (w s) (w t) = upd (upd (upd (upd (e 0) (84 + 3 * gM (e 0) + 0) (w p)) (84 + 3 * gM (e 0) + 1) (w s)) (84 + 3 * gM (e 0) + 2) (w t)) 1 (w (gM (e 0)) + 1) := by
      unfold eNet
      rw [w_succ, show 84 + 3 * gM (e 0) + 1 = 85 + 3 * gM (e 0) by omega, show 84 + 3 * gM (e 0) + 2 = 86 + 3 * gM (e 0) by omega]
      rfl
    rw [this]
    exact M6
end MNET
