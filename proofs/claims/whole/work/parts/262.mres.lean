/-! the reference's changes, all alike -/
section MRES
variable {B : Nat} {h h1 : PH} {m c k i : Nat} {e e1 b : CS} {K : Nat → GS} {x y z a v : Int32} {X : GS}
/-- the number of what a call throws, in the law's order -/
def cd (k : Nat) (v : Int32) : Int32 := if v = 0 then 0 else if k = 1 ∨ k = 2 then (if v = -2 then 1 else if v = -1 then 2 else 3) else if k = 3 ∨ k = 5 ∨ k = 7 ∨ k = 8 ∨ k = 10 ∨ k = 11 then 1 else if v < 0 then 1 else 2
/-- what no change of the game touches -/
def Rst (e e1 : CS) : Prop := ∀ j, j = 2 ∨ j = 3 ∨ j = 4 ∨ j = 6 ∨ (12 ≤ j ∧ j ≤ 19) → e1 j = e j
def Kst (e e1 : CS) (K : Nat → GS) (c : Nat) : Prop := (e 6 0 = 0 ∧ Kp e1 (Kn K c (e 0)) (min (c + 1) 8)) ∨ (e 6 0 = 1 ∧ e1 1 = e 1 ∧ e1 5 = e 5)
/-- the reference behind a change: done, denied, or refused -/
noncomputable def Mo (e e1 : CS) (K : Nat → GS) (c k : Nat) (x y z a : Int32) : Prop :=
  Rst e e1 ∧ ((ju (e 0) k x y z = 0 ∧ a = an (e 0) k x y ∧ e1 0 = ef (e 0) k x y z ∧ e1 8 0 = 0 ∧ e1 9 = e 9 ∧ e1 10 = e 10 ∧ e1 11 = e 11 ∧ Kst e e1 K c) ∨
  (0 < ju (e 0) k x y z ∧ a = 0 ∧ e1 0 = e 0 ∧ e1 8 0 = cd k (ju (e 0) k x y z) ∧ e1 7 0 = 1 ∧ e1 9 0 = ju (e 0) k x y z ∧ e1 10 0 = dt (e 0) (nv (ju (e 0) k x y z)) k x ∧ e1 11 0 = 0 ∧ e1 1 = e 1 ∧ e1 5 = e 5) ∨
  (ju (e 0) k x y z < 0 ∧ a = 0 ∧ e1 0 = e 0 ∧ e1 8 0 = cd k (ju (e 0) k x y z) ∧ e1 7 0 = 0 ∧ e1 9 = e 9 ∧ e1 10 = e 10 ∧ e1 11 = e 11 ∧ e1 1 = e 1 ∧ e1 5 = e 5))
def MR (h : PH) (m : Nat) (e : CS) (K : Nat → GS) (c k : Nat) (x y z : Int32) (r : Option (Int32 × PH)) : Prop := ∃ h1 e1 a, r = some (a, h1) ∧ MoC h1 m e1 ∧ fr (mW m) h h1 ∧ Mo e e1 K c k x y z a
theorem Rst.toF (e : CS) (p : Int32) : Rst e (eF e p) := fun j hj => by
  unfold eF setR
  rw [if_neg (by omega), if_neg (by omega)]
theorem Rst.toD (e b : CS) (p n o : Int32) (hb : Rst e b) : Rst e (eDn b p n o) := fun j hj => by
  rw [← hb j hj]
  unfold eDn setR
  rw [if_neg (by omega), if_neg (by omega), if_neg (by omega), if_neg (by omega), if_neg (by omega)]
theorem KpB.out (hb : ∀ j, j ≠ 7 → j ≠ 8 → b j = e j) (A : KpB b K c (e 0) e1) : Rst e (setR e1 0 X) ∧ (setR e1 0 X) 0 = X ∧ (setR e1 0 X) 8 0 = 0 ∧ (setR e1 0 X) 9 = e 9 ∧ (setR e1 0 X) 10 = e 10 ∧ (setR e1 0 X) 11 = e 11 ∧ Kst e (setR e1 0 X) K c := by
  rcases A with ⟨h6, f1, rfl, K1⟩ | ⟨h6, rfl⟩
  · refine ⟨fun j hj => ?_, rfl, rfl, ?_, ?_, ?_, Or.inl ⟨by rw [← hb 6 (by decide) (by decide)]; exact h6, Nat.min_le_right _ _, rfl, K1⟩⟩
    · unfold setR
      rw [if_neg (by omega), if_neg (by omega), if_neg (by omega), if_neg (by omega)]
      exact hb j (by omega) (by omega)
    · exact hb 9 (by decide) (by decide)
    · exact hb 10 (by decide) (by decide)
    · exact hb 11 (by decide) (by decide)
  · refine ⟨fun j hj => ?_, rfl, rfl, ?_, ?_, ?_, Or.inr ⟨by rw [← hb 6 (by decide) (by decide)]; exact h6, hb 1 (by decide) (by decide), hb 5 (by decide) (by decide)⟩⟩
    · unfold setR
      rw [if_neg (by omega), if_neg (by omega)]
      exact hb j (by omega) (by omega)
    · exact hb 9 (by decide) (by decide)
    · exact hb 10 (by decide) (by decide)
    · exact hb 11 (by decide) (by decide)
theorem mr_ok {r : Option (Int32 × PH)} (q : ju (e 0) k x y z = 0) (H : ∃ h1 e1, r = some (an (e 0) k x y, h1) ∧ MoC h1 m (setR e1 0 (ef (e 0) k x y z)) ∧ KpO e K c (e 0) e1 ∧ fr (mW m) h h1) : MR h m e K c k x y z r := by
  obtain ⟨h1, e1, E, M1, A1, F1⟩ := H
  obtain ⟨p1, p2, p3, p4, p5, p6, p7⟩ := KpB.out (X := ef (e 0) k x y z) (fun j j7 j8 => eF_row e 0 j7 j8) A1
  exact ⟨h1, _, _, E, M1, F1, p1, Or.inl ⟨q, rfl, p2, p3, p4, p5, p6, p7⟩⟩
theorem mr_okE {r : Option (Int32 × PH)} (q : ju (e 0) k x y z = 0) (H : ∃ h1 e1, r = some (an (e 0) k x y, h1) ∧ MoC h1 m (setR e1 0 (ef (e 0) k x y z)) ∧ KpE e K c (e 0) e1 ∧ fr (mW m) h h1) : MR h m e K c k x y z r := by
  obtain ⟨h1, e1, E, M1, A1, F1⟩ := H
  obtain ⟨p1, p2, p3, p4, p5, p6, p7⟩ := KpB.out (X := ef (e 0) k x y z) (fun j _ _ => rfl) A1
  exact ⟨h1, _, _, E, M1, F1, p1, Or.inl ⟨q, rfl, p2, p3, p4, p5, p6, p7⟩⟩
theorem mr_bad {r : Option (Int32 × PH)} (q : ju (e 0) k x y z < 0) (H : ∃ h1, r = some (0, h1) ∧ MoC h1 m (eF e (cd k (ju (e 0) k x y z))) ∧ fr (mW m) h h1) : MR h m e K c k x y z r := by
  obtain ⟨h1, E, M1, F1⟩ := H
  exact ⟨h1, _, _, E, M1, F1, Rst.toF _ _, Or.inr (Or.inr ⟨q, rfl, rfl, rfl, rfl, rfl, rfl, rfl, rfl, rfl⟩)⟩
theorem mr_no {r : Option (Int32 × PH)} (hb : b = e ∨ b = eF e 0) (q : 0 < ju (e 0) k x y z) (H : ∃ h1, r = some (0, h1) ∧ MoC h1 m (eDn b (cd k (ju (e 0) k x y z)) (ju (e 0) k x y z) (dt (e 0) (nv (ju (e 0) k x y z)) k x)) ∧ fr (mW m) h h1) : MR h m e K c k x y z r := by
  obtain ⟨h1, E, M1, F1⟩ := H
  rcases hb with rfl | rfl
  · exact ⟨h1, _, _, E, M1, F1, Rst.toD _ _ _ _ _ (fun _ _ => rfl), Or.inr (Or.inl ⟨q, rfl, rfl, rfl, rfl, rfl, rfl, rfl, rfl, rfl⟩)⟩
  · exact ⟨h1, _, _, E, M1, F1, Rst.toD _ _ _ _ _ (Rst.toF _ _), Or.inr (Or.inl ⟨q, rfl, rfl, rfl, rfl, rfl, rfl, rfl, rfl, rfl⟩)⟩
theorem jv_C (g : GS) (x y v : Int32) : juC g x y v = 0 ∨ juC g x y v = -1 ∨ juC g x y v = -2 ∨ (juC g x y v = 5 ∧ isN g x = true ∧ isN g y = true ∧ ¬ x = y) := by
  unfold juC
  by_cases c1 : isN g x = false
  · rw [if_pos c1]; exact Or.inr (Or.inr (Or.inl rfl))
  · rw [if_neg c1]
    by_cases c2 : isN g y = true
    · rw [if_pos c2]
      by_cases c3 : x = y
      · rw [if_pos c3]; exact Or.inr (Or.inl rfl)
      · rw [if_neg c3]
        by_cases c4 : zb ((gU g (nv x)).testBit (nv y)) = v
        · rw [if_pos c4]; exact Or.inl rfl
        · rw [if_neg c4]; exact Or.inr (Or.inr (Or.inr ⟨rfl, by simpa using c1, c2, c3⟩))
    · rw [if_neg c2]; exact Or.inr (Or.inr (Or.inl rfl))
theorem jv_0 (g : GS) : ju g 0 x y z = 0 ∨ ju g 0 x y z = -1 ∨ ju g 0 x y z = 1 := by
  rw [ju_0]
  repeat' split
  all_goals first | exact Or.inl rfl | exact Or.inr (Or.inl rfl) | exact Or.inr (Or.inr rfl)
theorem jv_3 (g : GS) : ju g 3 x y z = 0 ∨ ju g 3 x y z = -1 := by
  rw [ju_3]
  repeat' split
  all_goals first | exact Or.inl rfl | exact Or.inr rfl
theorem jv_4 (g : GS) : ju g 4 x y z = 0 ∨ ju g 4 x y z = -1 ∨ ju g 4 x y z = 1 := by
  rw [ju_4]
  repeat' split
  all_goals first | exact Or.inl rfl | exact Or.inr (Or.inl rfl) | exact Or.inr (Or.inr rfl)
theorem jv_5 (g : GS) : ju g 5 x y z = 0 ∨ (ju g 5 x y z = -3 ∧ isM g x = false) := by
  rw [ju_5]
  by_cases c : isM g x = false
  · rw [if_pos c]; exact Or.inr ⟨rfl, c⟩
  · rw [if_neg c]; exact Or.inl rfl
theorem jv_6 (O : Ok B X) : ju X 6 x y z = 0 ∨ (ju X 6 x y z = -3 ∧ isM X x = false) ∨ (ju X 6 x y z = 2 ∧ ∃ k, x = w k ∧ k < gM X ∧ X 3 = 0) ∨ (ju X 6 x y z = 3 ∧ ∃ k, x = w k ∧ k < gM X ∧ ¬ X 3 = 0 ∧ gS X = 0 ∧ gK X k < 10) := by
  have hm := O.m
  rw [ju_6]
  by_cases c1 : isM X x = true
  · rw [if_pos c1]
    obtain ⟨k, hk, rfl⟩ := (isM_iff (g := X) (by omega)).mp c1
    by_cases c2 : X 3 = 0
    · rw [if_pos c2]; exact Or.inr (Or.inr (Or.inl ⟨rfl, k, rfl, hk, c2⟩))
    · rw [if_neg c2, nv_w (show k < 2147483648 by omega)]
      by_cases c3 : gS X = 0
      · rw [if_pos c3]
        by_cases c4 : 10 ≤ gK X k
        · rw [if_pos c4]; exact Or.inl rfl
        · rw [if_neg c4]; exact Or.inr (Or.inr (Or.inr ⟨rfl, k, rfl, hk, c2, c3, by omega⟩))
      · rw [if_neg c3]; exact Or.inl rfl
  · rw [if_neg c1]; exact Or.inr (Or.inl ⟨rfl, by simpa using c1⟩)
theorem jv_7 (g : GS) : ju g 7 x y z = 0 ∨ ju g 7 x y z = -1 := by
  rw [ju_7]
  repeat' split
  all_goals first | exact Or.inl rfl | exact Or.inr rfl
theorem jv_8 (g : GS) : ju g 8 x y z = 0 ∨ (ju g 8 x y z = 7 ∧ gc g 1 = 0) := by
  rw [ju_8]
  by_cases c : gc g 1 = 0
  · rw [if_pos c]; exact Or.inr ⟨rfl, c⟩
  · rw [if_neg c]; exact Or.inl rfl
theorem jv_9 (O : Ok B X) : ju X 9 x y z = 0 ∨ (ju X 9 x y z = -2 ∧ isN X x = false) ∨ (ju X 9 x y z = 4 ∧ ∃ k, x = w k ∧ k < gN X ∧ ¬ gH X k = 1) := by
  have hn := O.n
  rw [ju_9]
  by_cases c1 : isN X x = true
  · rw [if_pos c1]
    obtain ⟨k, hk, rfl⟩ := (isN_iff (g := X) (by omega)).mp c1
    rw [nv_w (show k < 2147483648 by omega)]
    by_cases c2 : gH X k = 1
    · rw [if_pos c2]; exact Or.inl rfl
    · rw [if_neg c2]; exact Or.inr (Or.inr ⟨rfl, k, rfl, hk, c2⟩)
  · rw [if_neg c1]; exact Or.inr (Or.inl ⟨rfl, by simpa using c1⟩)
theorem jv_10 (g : GS) : ju g 10 x y z = 0 ∨ ju g 10 x y z = 6 ∨ ju g 10 x y z = 8 := by
  rw [ju_10]
  repeat' split
  all_goals first | exact Or.inl rfl | exact Or.inr (Or.inl rfl) | exact Or.inr (Or.inr rfl)
theorem jv_11 (g : GS) : ju g 11 x y z = 0 ∨ ju g 11 x y z = -1 := by
  rw [ju_11]
  repeat' split
  all_goals first | exact Or.inl rfl | exact Or.inr rfl
end MRES
/-! each of the reference's changes -/
section MRES2
variable {B : Nat} {h h1 : PH} {m c k i : Nat} {e e1 b : CS} {K : Nat → GS} {x y z a v : Int32} {X : GS}
theorem mr_0 (O : Ok B (e 0)) (M : MoC h m e) (A : KA e K c) : MR h m e K c 0 x y z (f_X10_addNote h m x y) := by
  rcases jv_0 (x := x) (y := y) (z := z) (e 0) with q | q | q
  · exact mr_ok q (madd_ok O M A q)
  · exact mr_bad (by rw [q]; decide) (by rw [q]; exact madd_bad M q)
  · refine mr_no (Or.inr rfl) (by rw [q]; decide) ?_
    rw [q]
    exact madd_full O M q
theorem mr_C {v : Int32} (hk : (k = 1 ∧ v = 0) ∨ (k = 2 ∧ v = 1)) (O : Ok B (e 0)) (M : MoC h m e) (A : KA e K c) : MR h m e K c k x y z (f_X10_turns h m x y (1 - v)) := by
  have hn := O.n
  have j1 : ju (e 0) k x y z = juC (e 0) x y v := by
    rcases hk with ⟨rfl, rfl⟩ | ⟨rfl, rfl⟩
    · exact ju_1
    · exact ju_2
  have hv : v = 0 ∨ v = 1 := by
    rcases hk with ⟨_, z⟩ | ⟨_, z⟩
    · exact Or.inl z
    · exact Or.inr z
  have cdk : ∀ u, cd k u = if u = 0 then 0 else if u = -2 then 1 else if u = -1 then 2 else 3 := fun u => by
    unfold cd
    by_cases u0 : u = 0
    · rw [if_pos u0, if_pos u0]
    · rw [if_neg u0, if_neg u0]
      rcases hk with ⟨rfl, -⟩ | ⟨rfl, -⟩ <;> rfl
  rcases jv_C (e 0) x y v with q | q | q | ⟨q, n1, n2, n3⟩
  · obtain ⟨i, j, rfl, rfl, h1, h2, h3, h4⟩ := need_C O q
    have h5 : ¬ zb ((gU (e 0) i).testBit j) = 1 - v := fun z => by
      rw [h4] at z
      rcases hv with rfl | rfl
      · exact absurd z (by decide)
      · exact absurd z (by decide)
    obtain ⟨x1, d1, E, M1, A1, F1⟩ := mturn_ok (v := 1 - v) O M A h1 h2 h3 h5
    refine mr_ok (j1.trans q) ⟨x1, d1, ?_, ?_, A1, F1⟩
    · rw [E]
      rcases hk with ⟨rfl, -⟩ | ⟨rfl, -⟩
      · rw [an_1, nv_w (show i < 2147483648 by omega), nv_w (show j < 2147483648 by omega)]
      · rw [an_2, nv_w (show i < 2147483648 by omega), nv_w (show j < 2147483648 by omega)]
    · rcases hk with ⟨rfl, -⟩ | ⟨rfl, -⟩
      · rw [ef_1, nv_w (show i < 2147483648 by omega), nv_w (show j < 2147483648 by omega)]; exact M1
      · rw [ef_2, nv_w (show i < 2147483648 by omega), nv_w (show j < 2147483648 by omega)]; exact M1
  · refine mr_bad (by rw [j1, q]; decide) ?_
    rw [j1, q, cdk]
    exact mturn_same O M q
  · refine mr_bad (by rw [j1, q]; decide) ?_
    rw [j1, q, cdk]
    exact mturn_none O M q
  · obtain ⟨i, hi, rfl⟩ := (isN_iff (g := e 0) (by omega)).mp n1
    obtain ⟨j, hj, rfl⟩ := (isN_iff (g := e 0) (by omega)).mp n2
    have ij : i ≠ j := fun z => n3 (by rw [z])
    refine mr_no (Or.inr rfl) (by rw [j1, q]; decide) ?_
    have h4 : ¬ zb ((gU (e 0) i).testBit j) = v := fun z => by
      unfold juC at q
      rw [if_neg (by rw [n1]; decide), if_pos n2, if_neg n3, nv_w (show i < 2147483648 by omega), nv_w (show j < 2147483648 by omega), if_pos z] at q
      exact absurd q (by decide)
    have h5 : zb ((gU (e 0) i).testBit j) = 1 - v := by
      cases d : (gU (e 0) i).testBit j
      · rw [d] at h4
        rcases hv with rfl | rfl
        · exact absurd rfl h4
        · rfl
      · rw [d] at h4
        rcases hv with rfl | rfl
        · rfl
        · exact absurd rfl h4
    obtain ⟨x1, E, M1, F1⟩ := mturn_deny (v := 1 - v) O M hi hj ij h5
    have ed : dt (e 0) (nv 5) k (w i) = w (pop (gU (e 0) i)) := by
      show dt (e 0) 5 k (w i) = _
      rw [dt_5, if_neg (by rw [n1]; decide), nv_w (show i < 2147483648 by omega)]
    rw [j1, q, cdk, ed]
    exact ⟨x1, E, M1, F1⟩
theorem mr_1 (O : Ok B (e 0)) (M : MoC h m e) (A : KA e K c) : MR h m e K c 1 x y z (f_X10_cite h m x y) := by
  obtain ⟨h1, e1, a, E, R⟩ := mr_C (x := x) (y := y) (z := z) (k := 1) (v := 0) (Or.inl ⟨rfl, rfl⟩) O M A
  refine ⟨h1, e1, a, ?_, R⟩
  have E' : f_X10_turns h m x y (1 : Int32) = some (a, h1) := E
  unfold f_X10_cite
  rw [M.gd, Option.bind_some, E']; rfl
theorem mr_2 (O : Ok B (e 0)) (M : MoC h m e) (A : KA e K c) : MR h m e K c 2 x y z (f_X10_uncite h m x y) := by
  obtain ⟨h1, e1, a, E, R⟩ := mr_C (x := x) (y := y) (z := z) (k := 2) (v := 1) (Or.inr ⟨rfl, rfl⟩) O M A
  refine ⟨h1, e1, a, ?_, R⟩
  have E' : f_X10_turns h m x y (0 : Int32) = some (a, h1) := E
  unfold f_X10_uncite
  rw [M.gd, Option.bind_some, E']; rfl
theorem mr_3 (O : Ok B (e 0)) (M : MoC h m e) (A : KA e K c) : MR h m e K c 3 x y z (f_X10_setCurrent h m x y) := by
  rcases jv_3 (x := x) (y := y) (z := z) (e 0) with q | q
  · exact mr_ok q (mcur_ok O M A q)
  · exact mr_bad (by rw [q]; decide) (by rw [q]; exact mcur_bad M q)
theorem mr_4 (O : Ok B (e 0)) (M : MoC h m e) (A : KA e K c) : MR h m e K c 4 x y z (f_X10_addNet h m x y z) := by
  rcases jv_4 (x := x) (y := y) (z := z) (e 0) with q | q | q
  · exact mr_ok q (mnet_ok O M A q)
  · exact mr_bad (by rw [q]; decide) (by rw [q]; exact mnet_bad M q)
  · refine mr_no (Or.inr rfl) (by rw [q]; decide) ?_
    rw [q]
    exact mnet_full O M q
theorem mr_5 (O : Ok B (e 0)) (M : MoC h m e) (A : KA e K c) : MR h m e K c 5 x y z (f_X10_removeNet h m x) := by
  rcases jv_5 (x := x) (y := y) (z := z) (e 0) with q | ⟨q, n⟩
  · exact mr_ok q (mcut_ok O M A q)
  · exact mr_bad (by rw [q]; decide) (by rw [q]; exact mcut_none O M n)
theorem mr_6 (O : Ok B (e 0)) (M : MoC h m e) (A : KA e K c) : MR h m e K c 6 x y z (f_X10_haul h m x) := by
  have hm := O.m
  rcases jv_6 (x := x) (y := y) (z := z) O with q | ⟨q, n⟩ | ⟨q, k, rfl, hk, n⟩ | ⟨q, k, rfl, hk, n1, n2, n3⟩
  · exact mr_ok q (mhaul_ok O M A q)
  · exact mr_bad (by rw [q]; decide) (by rw [q]; exact mhaul_none O M n)
  · refine mr_no (Or.inr rfl) (by rw [q]; decide) ?_
    rw [q]
    exact mhaul_no O M hk n
  · refine mr_no (Or.inr rfl) (by rw [q]; decide) ?_
    have ed : dt (e 0) (nv 3) 6 (w k) = w (gK (e 0) k) := by
      show dt (e 0) 3 6 (w k) = _
      rw [dt_3, if_neg (by rw [(isM_iff (g := e 0) (by omega)).mpr ⟨k, hk, rfl⟩]; decide), nv_w (show k < 2147483648 by omega)]
    rw [q, ed]
    exact mhaul_fine O M hk n1 ⟨n2, n3⟩
theorem mr_7 (O : Ok B (e 0)) (M : MoC h m e) (A : KA e K c) : MR h m e K c 7 x y z (f_X10_setQuota h m x y) := by
  rcases jv_7 (x := x) (y := y) (z := z) (e 0) with q | q
  · exact mr_ok q (mquo_ok O M A q)
  · exact mr_bad (by rw [q]; decide) (by rw [q]; exact mquo_bad M q)
theorem mr_8 (O : Ok B (e 0)) (M : MoC h m e) (A : KA e K c) : MR h m e K c 8 x y z (f_X10_land h m) := by
  rcases jv_8 (x := x) (y := y) (z := z) (e 0) with q | ⟨q, n⟩
  · exact mr_okE q (mland_ok O M A q)
  · refine mr_no (Or.inl rfl) (by rw [q]; decide) ?_
    rw [q]
    exact mlandno O M n
theorem mr_9 (O : Ok B (e 0)) (M : MoC h m e) (A : KA e K c) : MR h m e K c 9 x y z (f_X10_free h m x) := by
  rcases jv_9 (x := x) (y := y) (z := z) O with q | ⟨q, n⟩ | ⟨q, k, rfl, hk, n⟩
  · exact mr_ok q (mfree_ok O M A q)
  · exact mr_bad (by rw [q]; decide) (by rw [q]; exact mfree_none O M n)
  · refine mr_no (Or.inr rfl) (by rw [q]; decide) ?_
    rw [q]
    exact mfree_no O M hk n
theorem mr_10 (O : Ok B (e 0)) (M : MoC h m e) (A : KA e K c) : MR h m e K c 10 x y z (f_X10_buyLicence h m) := by
  rcases jv_10 (x := x) (y := y) (z := z) (e 0) with q | q | q
  · exact mr_okE q (mbuy_ok O M A q)
  · refine mr_no (Or.inl rfl) (by rw [q]; decide) ?_
    obtain ⟨x1, E, M1, F1⟩ := mbuy_deny O M (x := x) (y := y) (z := z) (by rw [q]; decide)
    rw [q, if_pos rfl, dt_6] at M1
    rw [q, show nv (6 : Int32) = 6 from by decide, dt_6, show cd 10 (6 : Int32) = 1 from by decide]
    exact ⟨x1, E, M1, F1⟩
  · refine mr_no (Or.inl rfl) (by rw [q]; decide) ?_
    obtain ⟨x1, E, M1, F1⟩ := mbuy_deny O M (x := x) (y := y) (z := z) (by rw [q]; decide)
    rw [q, if_neg (by decide), dt_8] at M1
    rw [q, show nv (8 : Int32) = 8 from by decide, dt_8, show cd 10 (8 : Int32) = 1 from by decide]
    exact ⟨x1, E, M1, F1⟩
theorem mr_11 (O : Ok B (e 0)) (M : MoC h m e) (A : KA e K c) (hb : B + 40 < 1000000000) : MR h m e K c 11 x y z (f_X10_pass h m x) := by
  rcases jv_11 (x := x) (y := y) (z := z) (e 0) with q | q
  · exact mr_ok q (mpass_go O M A hb q)
  · exact mr_bad (by rw [q]; decide) (by rw [q]; exact mpass_bad M q)
end MRES2
