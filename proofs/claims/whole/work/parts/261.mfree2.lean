/-! the reference lets a note go -/
section MFREE2
variable {B : Nat} {h h1 : PH} {m c k : Nat} {e e1 : CS} {K : Nat → GS} {x y z : Int32}
theorem misNone1 (O : Ok B (e 0)) (M : MoC h m e) (q : isN (e 0) x = false) : ∃ h1, f_X10_isNone h m x = some (true, h1) ∧ MoC h1 m (eF e 1) ∧ fr (mW m) h h1 := by
  have H : Mg B h m (e 0) := ⟨O, e, M, rfl⟩
  obtain ⟨h1, e1, M1, F1⟩ := mfail1 M
  refine ⟨h1, ?_, M1, F1⟩
  unfold f_X10_isNone
  simp only [M.gd, misNote H, q, Option.bind_some, if_true, e1]
theorem misNone0 (O : Ok B (e 0)) (M : MoC h m e) (q : isN (e 0) x = true) : ∃ h1, f_X10_isNone h m x = some (false, h1) ∧ MoC h1 m (eF e 0) ∧ fr (mW m) h h1 := by
  have H : Mg B h m (e 0) := ⟨O, e, M, rfl⟩
  obtain ⟨h1, e1, M1, F1⟩ := mfail0 M
  refine ⟨h1, ?_, M1, F1⟩
  unfold f_X10_isNone
  simp only [M.gd, misNote H, q, Option.bind_some, if_neg (show ¬ (true = false) by decide), e1]
theorem mfree_none (O : Ok B (e 0)) (M : MoC h m e) (q : isN (e 0) x = false) : ∃ h1, f_X10_free h m x = some (0, h1) ∧ MoC h1 m (eF e 1) ∧ fr (mW m) h h1 := by
  obtain ⟨h1, e1, M1, F1⟩ := misNone1 O M q
  refine ⟨h1, ?_, M1, F1⟩
  unfold f_X10_free
  simp only [M.gd, e1, Option.bind_some, if_neg (show ¬ (true = false) by decide)]
theorem mfree_no (O : Ok B (e 0)) (M : MoC h m e) (hk : k < gN (e 0)) (c1 : ¬ gH (e 0) k = 1) : ∃ h1, f_X10_free h m (w k) = some (0, h1) ∧ MoC h1 m (eDn (eF e 0) 2 4 (w k)) ∧ fr (mW m) h h1 := by
  have hn := O.n
  have hh := (O.note hk).2.2.2.2.2.2.1
  obtain ⟨x1, e1, M1, F1⟩ := misNone0 O M ((isN_iff (g := e 0) (by omega)).mpr ⟨k, hk, rfl⟩)
  obtain ⟨x2, e2, M2, F2⟩ := mdenies M1 2 4 (w k)
  have c2 : ¬ w (gH (e 0) k) = (1 : Int32) := fun z => c1 ((w_inj (b := 1) (by omega) (by decide)).mp z)
  refine ⟨x2, ?_, M2, F1.trans F2⟩
  unfold f_X10_free
  simp only [M.gd, e1, Option.bind_some, if_true, M1.gd, (mg0 O M1).of2 hk, if_neg c2, e2]
theorem mfree_ok (O : Ok B (e 0)) (M : MoC h m e) (A : KA e K c) (q : ju (e 0) 9 x y z = 0) : ∃ h1 e1, f_X10_free h m x = some (an (e 0) 9 x y, h1) ∧ MoC h1 m (setR e1 0 (ef (e 0) 9 x y z)) ∧ KpO e K c (e 0) e1 ∧ fr (mW m) h h1 := by
  have hn := O.n
  obtain ⟨k, rfl, hk, hH⟩ := need_9 O q
  obtain ⟨x1, e1, M1, F1⟩ := misNone0 O M ((isN_iff (g := e 0) (by omega)).mpr ⟨k, hk, rfl⟩)
  have o2 : f_X10_of x1 m (w k) (2 : Int32) = some (1 : Int32) := by
    rw [(mg0 O M1).of2 hk, hH]; rfl
  obtain ⟨x2, d2, e2, M2, A2, r2, F2⟩ := mkeep0 M1 A
  have M2' : MoC x2 m (setR d2 0 (e 0)) := by rw [← r2, setR_id]; exact M2
  obtain ⟨x3, e3, M3, F3⟩ := mlays M2' (k := k) (j := 2) 0 (by omega) (by decide)
  have e3' : f_X10_lays x2 m (w k) (2 : Int32) (0 : Int32) = some x3 := e3
  have n7 : alI .int x3 (m + 1) (7 : Int32) = some (e 0 7) := by
    have := M3.a0 (k := 7) (by decide)
    rw [setR_0, upd_ne (by omega)] at this
    exact this
  obtain ⟨x4, e4, M4, F4⟩ := mput M3 (i := 7) (e 0 7 + 1) (by decide)
  have e4' : asI .int x3 (m + 1) (7 : Int32) (e 0 7 + 1) = some x4 := e4
  have ee : upd (upd (e 0) (44 + 4 * k + 2) 0) 7 (e 0 7 + 1) = eFree (e 0) k := by
    unfold eFree
    rw [show 44 + 4 * k + 2 = 46 + 4 * k by omega]
  rw [ee] at M4
  have O4 := O.free_ok hk hH
  have H4 : Mg B x4 m (eFree (e 0) k) := ⟨O4, _, M4, setR_0 _ _ _⟩
  have th : f_X10_those x4 m (1 : Int32) = some (w (gs (eFree (e 0) k) 1)) := mthose H4 (c := 1) (by decide)
  have g1 := gs_lt O4 1
  have mb : f_X10_bits (w (gs (eFree (e 0) k) 1)) = some (w (gc (eFree (e 0) k) 1)) := by rw [mbits (by omega), pop_gs O4]
  rw [an_9, ef_9, nv_w (show k < 2147483648 by omega)]
  refine ⟨x4, d2, ?_, M4, A2, ((F1.trans F2).trans F3).trans F4⟩
  unfold f_X10_free
  simp only [M.gd, e1, Option.bind_some, if_true, M1.gd, o2, M1.r0, e2, M2.gd, e3', M3.r0, n7, e4', M4.gd, th, mb]
end MFREE2
