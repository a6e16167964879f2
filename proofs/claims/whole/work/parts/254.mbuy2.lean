/-! the reference's licence bought; days passed -/
section MBUY2
variable {B : Nat} {h h1 : PH} {m c : Nat} {e e1 : CS} {K : Nat → GS} {x y z : Int32}
theorem mbuy_ok (O : Ok B (e 0)) (M : MoC h m e) (A : KA e K c) (q : ju (e 0) 10 x y z = 0) : ∃ h1 e1, f_X10_buyLicence h m = some (an (e 0) 10 x y, h1) ∧ MoC h1 m (setR e1 0 (ef (e 0) 10 x y z)) ∧ KpE e K c (e 0) e1 ∧ fr (mW m) h h1 := by
  have H : Mg B h m (e 0) := ⟨O, e, M, rfl⟩
  have n3' : alI .int h (m + 1) (3 : Int32) = some (e 0 3) := H.a (i := 3) (by decide)
  have n4' : alI .int h (m + 1) (4 : Int32) = some (e 0 4) := H.a (i := 4) (by decide)
  have s4 := gS_lt (e 0)
  obtain ⟨q1, q2⟩ := need_10 q
  obtain ⟨x2, d2, e2, M2, A2, r2, F2⟩ := mkeepE M A
  have M2' : MoC x2 m (setR d2 0 (e 0)) := by rw [← r2, setR_id]; exact M2
  obtain ⟨x3, e3, M3, F3⟩ := mput M2' (i := 3) 1 (by decide)
  have n5 : alI .int x3 (m + 1) (4 : Int32) = some (e 0 4) := by
    have := M3.a0 (k := 4) (by decide)
    rw [setR_0, upd_ne (by omega)] at this
    exact this
  obtain ⟨x4, e4, M4, F4⟩ := mput M3 (i := 4) (e 0 4 - w (prc (gS (e 0)))) (by decide)
  have n6 : alI .int x4 (m + 1) (4 : Int32) = some (e 0 4 - w (prc (gS (e 0)))) := by
    have := M4.a0 (k := 4) (by decide)
    rw [setR_0, upd_eq] at this
    exact this
  have e3' : asI .int x2 (m + 1) (3 : Int32) (1 : Int32) = some x3 := e3
  have e4' : asI .int x3 (m + 1) (4 : Int32) (e 0 4 - w (prc (gS (e 0)))) = some x4 := e4
  refine ⟨x4, d2, ?_, ?_, A2, (F2.trans F3).trans F4⟩
  · rw [an_10]
    unfold f_X10_buyLicence
    simp only [M.gd, mseason H, M.r0, n3', n4', Option.bind_some, mfee2 _ s4, q1, e2, M2.r0, e3', M3.r0, n5, e4', M4.r0, n6]
    rw [if_pos (by decide), if_pos q2]
  · rw [ef_10]
    exact M4
end MBUY2
