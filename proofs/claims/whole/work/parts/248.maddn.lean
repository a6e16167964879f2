/-! the reference's changes: the pattern -/
section MADD
variable {B : Nat} {g : GS} {h h1 : PH} {m c k i : Nat} {e e1 : CS} {K : Nat → GS} {x y z : Int32}
/-- what is known of the keeping: not within an execution, K kept; or within one -/
def KA (e : CS) (K : Nat → GS) (c : Nat) : Prop := (e 6 0 = 0 ∧ Kp e K c) ∨ e 6 0 = 1
/-- what the reference has kept behind a change: the row before it -/
def KpB (b : CS) (K : Nat → GS) (c : Nat) (g : GS) (e1 : CS) : Prop := (b 6 0 = 0 ∧ ∃ f1, e1 = setR (setR (setR b 8 fun _ => 0) 1 f1) 5 (fun _ => w (min (c + 1) 8)) ∧ ∀ i, i < min (c + 1) 8 → ∀ k, k < 99 → f1 (99 * i + k) = Kn K c g i k) ∨ (b 6 0 = 1 ∧ e1 = setR b 8 fun _ => 0)
def KpO (e : CS) (K : Nat → GS) (c : Nat) (g : GS) (e1 : CS) : Prop := KpB (eF e 0) K c g e1
theorem eF_row (e : CS) (p : Int32) {j : Nat} (h7 : j ≠ 7) (h8 : j ≠ 8) : eF e p j = e j := by
  unfold eF setR
  rw [if_neg h7, if_neg h8]
theorem mkeepB {b : CS} (M : MoC h m b) (A : KA b K c) : ∃ h1 e1, f_X10_keeps h m (m + 1) = some h1 ∧ MoC h1 m e1 ∧ KpB b K c (b 0) e1 ∧ e1 0 = b 0 ∧ fr (mW m) h h1 := by
  rcases A with ⟨h6, A⟩ | h6
  · obtain ⟨h1, f1, e1, M1, K1, F1⟩ := mkeeps (r := m + 1) (g := b 0) M h6 A (by omega) (fun h' e' M' he => by
      have := M'.c0
      rw [he 0 (Or.inl rfl)] at this
      exact this)
    exact ⟨h1, _, e1, M1, Or.inl ⟨h6, f1, rfl, K1⟩, rfl, F1⟩
  · obtain ⟨h1, e1, M1, F1⟩ := mkeeps_in (r := m + 1) M h6
    exact ⟨h1, _, e1, M1, Or.inr ⟨h6, rfl⟩, rfl, F1⟩
theorem KA.eF (A : KA e K c) (p : Int32) : KA (eF e p) K c := by
  rcases A with ⟨h6, A⟩ | h6
  · exact Or.inl ⟨by rw [eF_row e p (by decide) (by decide)]; exact h6, A.1, by rw [eF_row e p (by decide) (by decide)]; exact A.2.1, fun i hi k hk => by rw [eF_row e p (by decide) (by decide)]; exact A.2.2 i hi k hk⟩
  · exact Or.inr (by rw [eF_row e p (by decide) (by decide)]; exact h6)
theorem mkeep0 (M : MoC h m (eF e 0)) (A : KA e K c) : ∃ h1 e1, f_X10_keeps h m (m + 1) = some h1 ∧ MoC h1 m e1 ∧ KpO e K c (e 0) e1 ∧ e1 0 = e 0 ∧ fr (mW m) h h1 := by
  have z := mkeepB M (A.eF 0)
  rw [eF_row e 0 (j := 0) (by decide) (by decide)] at z
  exact z
theorem mg0 (O : Ok B (e 0)) (M : MoC h m (eF e x)) : Mg B h m (e 0) := ⟨O, _, M, eF_row e x (by decide) (by decide)⟩
theorem madd_bad (M : MoC h m e) (q : ju (e 0) 0 x y z = -1) : ∃ h1, f_X10_addNote h m x y = some (0, h1) ∧ MoC h1 m (eF e 1) ∧ fr (mW m) h h1 := by
  obtain ⟨h1, e1, M1, F1⟩ := mfail1 M
  have J : f_X10_addNote_J22 h m x y m = some (0, h1) := by
    unfold f_X10_addNote_J22 f_X10_addNote_J23
    simp only [M.gd, e1, Option.bind_some, if_neg (show ¬ (true = false) by decide)]
  refine ⟨h1, ?_, M1, F1⟩
  unfold f_X10_addNote
  rw [ju_0] at q
  have ep : f_X10_isPage x = f_X9_isPage x := rfl
  have ei : f_X10_in y 1 30 = f_X9_isBetween y 1 30 := rfl
  rw [ep, ei]
  by_cases c1 : f_X9_isPage x = false
  · rw [if_pos c1]; exact J
  · rw [if_neg c1] at q ⊢
    by_cases c2 : f_X9_isBetween y 1 30 = true
    · rw [if_pos c2] at q
      by_cases c3 : gN (e 0) < 10
      · rw [if_pos c3] at q; exact absurd q (by decide)
      · rw [if_neg c3] at q; exact absurd q (by decide)
    · rw [if_pos (by simpa using c2)]; exact J
theorem madd_full (O : Ok B (e 0)) (M : MoC h m e) (q : ju (e 0) 0 x y z = 1) : ∃ h1, f_X10_addNote h m x y = some (0, h1) ∧ MoC h1 m (eDn (eF e 0) 2 1 10) ∧ fr (mW m) h h1 := by
  have hn := O.n
  rw [ju_0] at q
  have ep : f_X10_isPage x = f_X9_isPage x := rfl
  have ei : f_X10_in y 1 30 = f_X9_isBetween y 1 30 := rfl
  obtain ⟨h1, e1, M1, F1⟩ := mfail0 M
  obtain ⟨h2, e2, M2, F2⟩ := mdenies M1 2 1 10
  refine ⟨h2, ?_, M2, F1.trans F2⟩
  unfold f_X10_addNote
  rw [ep, ei]
  by_cases c1 : f_X9_isPage x = false
  · rw [if_pos c1] at q; exact absurd q (by decide)
  · rw [if_neg c1] at q ⊢
    by_cases c2 : f_X9_isBetween y 1 30 = true
    · rw [if_pos c2] at q
      by_cases c3 : gN (e 0) < 10
      · rw [if_pos c3] at q; exact absurd q (by decide)
      · have e10 : gN (e 0) = 10 := by omega
        have n0 := (mg0 O M1).n0
        rw [e10] at n0
        have c4 : ¬ ¬ w 10 = (10 : Int32) := fun z => z rfl
        rw [if_neg (by rw [c2]; decide)]
        unfold f_X10_addNote_J23
        simp only [M.gd, e1, Option.bind_some, if_true, M1.r0, n0, if_neg c4, M1.gd, e2]
    · rw [if_neg c2] at q; exact absurd q (by decide)
theorem madd_ok (O : Ok B (e 0)) (M : MoC h m e) (A : KA e K c) (q : ju (e 0) 0 x y z = 0) : ∃ h1 e1, f_X10_addNote h m x y = some (an (e 0) 0 x y, h1) ∧ MoC h1 m (setR e1 0 (ef (e 0) 0 x y z)) ∧ KpO e K c (e 0) e1 ∧ fr (mW m) h h1 := by
  obtain ⟨p, t, rfl, rfl, h1, h2, h3, h4⟩ := need_0 q
  have ep : f_X10_isPage (w p) = f_X9_isPage (w p) := rfl
  have ei : f_X10_in (w t) 1 30 = f_X9_isBetween (w t) 1 30 := rfl
  have c1 : ¬ f_X9_isPage (w p) = false := by rw [page_iff.mpr ⟨p, h1, rfl⟩]; decide
  have c2 : f_X9_isBetween (w t) 1 30 = true := (btw_iff (lo := 1) (hi := 30) (by decide) (by decide)).mpr ⟨t, h2, h3, rfl⟩
  have c2' : ¬ f_X9_isBetween (w t) 1 30 = false := by rw [c2]; decide
  obtain ⟨x1, e1, M1, F1⟩ := mfail0 M
  have n0 := (mg0 O M1).n0
  obtain ⟨x2, d2, e2, M2, A2, r2, F2⟩ := mkeep0 M1 A
  have M2' : MoC x2 m (setR d2 0 (e 0)) := by rw [← r2, setR_id]; exact M2
  have n2 : alI .int x2 (m + 1) (0 : Int32) = some (w (gN (e 0))) := by
    have := M2.a0 (k := 0) (by decide)
    rw [r2, O.g0] at this
    exact this
  obtain ⟨x3, e3, M3, F3⟩ := mput M2' (i := 0) (w (gN (e 0)) + 1) (by decide)
  obtain ⟨x4, e4, M4, F4⟩ := mlays M3 (k := gN (e 0)) (j := 0) (w p) (by omega) (by decide)
  obtain ⟨x5, e5, M5, F5⟩ := mlays M4 (k := gN (e 0)) (j := 1) (w t) (by omega) (by decide)
  obtain ⟨x6, e6, M6, F6⟩ := mlays M5 (k := gN (e 0)) (j := 2) 0 (by omega) (by decide)
  obtain ⟨x7, e7, M7, F7⟩ := mlays M6 (k := gN (e 0)) (j := 3) 0 (by omega) (by decide)
  have c3 : ¬ w (gN (e 0)) = (10 : Int32) := fun z => by
    have := (w_inj (a := gN (e 0)) (b := 10) (by omega) (by decide)).mp z
    omega
  have e3' : asI .int x2 (m + 1) (0 : Int32) (w (gN (e 0)) + 1) = some x3 := e3
  have e4' : f_X10_lays x3 m (w (gN (e 0))) (0 : Int32) (w p) = some x4 := e4
  have e5' : f_X10_lays x4 m (w (gN (e 0))) (1 : Int32) (w t) = some x5 := e5
  have e6' : f_X10_lays x5 m (w (gN (e 0))) (2 : Int32) (0 : Int32) = some x6 := e6
  have e7' : f_X10_lays x6 m (w (gN (e 0))) (3 : Int32) (0 : Int32) = some x7 := e7
  refine ⟨x7, d2, ?_, ?_, A2, (((((F1.trans F2).trans F3).trans F4).trans F5).trans F6).trans F7⟩
  · unfold f_X10_addNote
    rw [ep, ei, if_neg c1, if_neg c2', an_0]
    unfold f_X10_addNote_J23
    simp only [M.gd, e1, Option.bind_some, if_true, M1.r0, n0, M1.gd, e2, M2.r0, n2, e3', M3.gd, e4', M4.gd, e5', M5.gd, e6', M6.gd, e7']
    rw [if_pos c3]
  · rw [ef_0]
    have : eNote (e 0) (w p) (w t) = upd (upd (upd (upd (upd (e 0) 0 (w (gN (e 0)) + 1)) (44 + 4 * gN (e 0) + 0) (w p)) (44 + 4 * gN (e 0) + 1) (w t)) (44 + 4 * gN (e 0) + 2) 0) (44 + 4 * gN (e 0) + 3) 0 := by
      unfold eNote
      rw [w_succ, show 44 + 4 * gN (e 0) + 1 = 45 + 4 * gN (e 0) by omega, show 44 + 4 * gN (e 0) + 2 = 46 + 4 * gN (e 0) by omega, show 44 + 4 * gN (e 0) + 3 = 47 + 4 * gN (e 0) by omega]
      rfl
    rw [this]
    exact M7
end MADD
