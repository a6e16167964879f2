/-! the reference's licences: no fault is told first, so the old mark of a denial stays -/
section MBUY
variable {B : Nat} {h h1 : PH} {m c : Nat} {e e1 : CS} {K : Nat → GS} {x y z : Int32}
def KpE (e : CS) (K : Nat → GS) (c : Nat) (g : GS) (e1 : CS) : Prop := KpB e K c g e1
theorem mkeepE (M : MoC h m e) (A : KA e K c) : ∃ h1 e1, f_X10_keeps h m (m + 1) = some h1 ∧ MoC h1 m e1 ∧ KpE e K c (e 0) e1 ∧ e1 0 = e 0 ∧ fr (mW m) h h1 := mkeepB M A
theorem mfee2 (s : Nat) (hs : s < 4) : f_X10_fee (w s) = w (prc s) := by
  unfold f_X10_fee
  match s, hs with
  | 0, _ => rfl
  | 1, _ => rfl
  | 2, _ => rfl
  | 3, _ => rfl
  | s + 4, h => exact absurd h (by omega)
theorem mbuy_deny (O : Ok B (e 0)) (M : MoC h m e) (q : ¬ ju (e 0) 10 x y z = 0) : ∃ h1, f_X10_buyLicence h m = some (0, h1) ∧ MoC h1 m (eDn e 1 (ju (e 0) 10 x y z) (if ju (e 0) 10 x y z = 6 then dt (e 0) 6 10 0 else dt (e 0) 8 10 0)) ∧ fr (mW m) h h1 := by
  have H : Mg B h m (e 0) := ⟨O, e, M, rfl⟩
  have n3 := H.a (i := 3) (by decide)
  have n4 := H.a (i := 4) (by decide)
  have s4 := gS_lt (e 0)
  have n3' : alI .int h (m + 1) (3 : Int32) = some (e 0 3) := n3
  have n4' : alI .int h (m + 1) (4 : Int32) = some (e 0 4) := n4
  rw [ju_10] at q ⊢
  by_cases c1 : e 0 3 = 0
  · rw [if_pos c1] at q ⊢
    by_cases c2 : w (prc (gS (e 0))) ≤ e 0 4
    · rw [if_pos c2] at q; exact absurd rfl q
    · rw [if_neg c2] at q ⊢
      obtain ⟨x1, e1, M1, F1⟩ := mdenies M 1 6 (w (prc (gS (e 0))) - e 0 4)
      rw [if_pos rfl, dt_6]
      refine ⟨x1, ?_, M1, F1⟩
      unfold f_X10_buyLicence
      simp only [M.gd, mseason H, M.r0, n3', n4', Option.bind_some, mfee2 _ s4, c1]
      rw [if_pos (by decide), if_neg c2, e1]; rfl
  · rw [if_neg c1] at q ⊢
    have l1 : e 0 3 = 1 := by
      rcases O.li with z | z
      · exact absurd z c1
      · exact z
    obtain ⟨x1, e1, M1, F1⟩ := mdenies M 1 8 (w (gS (e 0)))
    rw [if_neg (by decide), dt_8]
    refine ⟨x1, ?_, M1, F1⟩
    unfold f_X10_buyLicence
    simp only [M.gd, mseason H, M.r0, n3', n4', Option.bind_some, l1]
    rw [if_neg (fun z => z trivial), e1]; rfl
end MBUY
