/-! the reference takes a net out -/
section MCUT
variable {B : Nat} {h h1 : PH} {m c k : Nat} {e e1 : CS} {K : Nat → GS} {x y z : Int32}
theorem mcut_none (O : Ok B (e 0)) (M : MoC h m e) (q : isM (e 0) x = false) : ∃ h1, f_X10_removeNet h m x = some (0, h1) ∧ MoC h1 m (eF e 1) ∧ fr (mW m) h h1 := by
  obtain ⟨h1, e1, i1, M1, F1⟩ := mnet_bad2 O M q
  refine ⟨h1, ?_, M1, F1⟩
  unfold f_X10_removeNet
  simp only [M.gd, i1, Option.bind_some, if_true]
  unfold f_X10_removeNet_J14
  simp only [M.gd, e1, Option.bind_some, if_neg (show ¬ (true = false) by decide)]
/-- the nets behind it moved up, so far -/
def eC1 (g : GS) (k n : Nat) : GS := fun i => if i = 1 then w (gM g - 1) else if 84 + 3 * k ≤ i ∧ i < 84 + 3 * k + n then g (i + 3) else g i
def eC2 (g : GS) (k n : Nat) : GS := fun i => if i = 1 then w (gM g - 1) else if 84 + 3 * k ≤ i ∧ i < 84 + 3 * (gM g - 1) then g (i + 3) else if 84 + 3 * (gM g - 1) ≤ i ∧ i < 84 + 3 * (gM g - 1) + n then 0 else g i
theorem mcut_ok (O : Ok B (e 0)) (M : MoC h m e) (A : KA e K c) (q : ju (e 0) 5 x y z = 0) : ∃ h1 e1, f_X10_removeNet h m x = some (an (e 0) 5 x y, h1) ∧ MoC h1 m (setR e1 0 (ef (e 0) 5 x y z)) ∧ KpO e K c (e 0) e1 ∧ fr (mW m) h h1 := by
  have hm := O.m
  obtain ⟨k, rfl, hk⟩ := need_5 O q
  have H : Mg B h m (e 0) := ⟨O, e, M, rfl⟩
  have i1 : f_X10_isNet h m (w k) = some true := by rw [misNet H, (isM_iff (g := e 0) (by omega)).mpr ⟨k, hk, rfl⟩]
  obtain ⟨x1, e1, M1, F1⟩ := mfail0 M
  obtain ⟨x2, d2, e2, M2, A2, r2, F2⟩ := mkeep0 M1 A
  have M2' : MoC x2 m (setR d2 0 (e 0)) := by rw [← r2, setR_id]; exact M2
  have n1 : alI .int x2 (m + 1) (1 : Int32) = some (w (gM (e 0))) := by
    have := M2.a0 (k := 1) (by decide)
    rw [r2, O.g1] at this
    exact this
  have el : w (gM (e 0)) - (1 : Int32) = w (gM (e 0) - 1) := w_sub (b := 1) (by omega)
  obtain ⟨x3, e3, M3, F3⟩ := mput M2' (i := 1) (w (gM (e 0) - 1)) (by decide)
  have e3' : asI .int x2 (m + 1) (1 : Int32) (w (gM (e 0) - 1)) = some x3 := e3
  have b0 : upd (e 0) 1 (w (gM (e 0) - 1)) = eC1 (e 0) k 0 := by
    funext i
    unfold eC1 upd
    by_cases c1 : i = 1
    · rw [if_pos c1, if_pos c1]
    · rw [if_neg c1, if_neg c1, if_neg (by omega)]
  rw [b0] at M3
  obtain ⟨x4, e4, M4, F4⟩ := sloop0 (fun fu j (q : PH) => f_X10_removeNet_L47 fu q m (w (84 + 3 * k + j))) id (3 * (gM (e 0) - 1 - k)) (fun j q => MoC q m (setR d2 0 (eC1 (e 0) k j)) ∧ fr (mW m) x3 q) (by omega) (fun fu j q hj hI => by
    obtain ⟨Mq, Fq⟩ := hI
    have n0 : alI .int q (m + 1) (1 : Int32) = some (w (gM (e 0) - 1)) := by
      have := Mq.a0 (k := 1) (by decide)
      rw [setR_0] at this
      exact this
    have n3 : alI .int q (m + 1) (w (84 + 3 * k + j) + (3 : Int32)) = some (e 0 (84 + 3 * k + j + 3)) := by
      have := Mq.a0 (k := 84 + 3 * k + j + 3) (by omega)
      rw [setR_0] at this
      have ex : eC1 (e 0) k j (84 + 3 * k + j + 3) = e 0 (84 + 3 * k + j + 3) := by
        unfold eC1
        rw [if_neg (by omega), if_neg (by omega)]
      rw [ex] at this
      have ew : w (84 + 3 * k + j) + (3 : Int32) = w (84 + 3 * k + j + 3) := w_add _ 3
      rw [ew]; exact this
    have lim : ¬ ((84 : Int32) + ((3 : Int32) * w (gM (e 0) - 1))) ≤ w (84 + 3 * k + j) := by
      have ew : (84 : Int32) + ((3 : Int32) * w (gM (e 0) - 1)) = w (84 + 3 * (gM (e 0) - 1)) := by
        show w 84 + (w 3 * w (gM (e 0) - 1)) = _
        rw [w_mul, w_add]
      rw [ew, w_le (by omega) (by omega)]
      omega
    obtain ⟨q1, eq1, Mq1, Fq1⟩ := mput Mq (i := 84 + 3 * k + j) (e 0 (84 + 3 * k + j + 3)) (by omega)
    refine ⟨q1, ?_, ?_, Fq.trans Fq1⟩
    · show f_X10_removeNet_L47 (fu + 1) q m (w (84 + 3 * k + j)) = f_X10_removeNet_L47 fu q1 m (w (84 + 3 * k + j + 1))
      simp only [f_X10_removeNet_L47, Mq.r0, n0, Option.bind_some, if_neg lim, n3, eq1, w_succ]
    · have : eC1 (e 0) k (j + 1) = upd (eC1 (e 0) k j) (84 + 3 * k + j) (e 0 (84 + 3 * k + j + 3)) := by
        funext i
        unfold eC1 upd
        dsimp only
        by_cases c1 : i = 1
        · rw [if_pos c1, if_neg (by omega), if_pos c1]
        · rw [if_neg c1, if_neg c1]
          by_cases c2 : i = 84 + 3 * k + j
          · rw [if_pos c2, if_pos (by omega), c2]
          · rw [if_neg c2]
            by_cases c3 : 84 + 3 * k ≤ i ∧ i < 84 + 3 * k + j
            · rw [if_pos c3, if_pos (by omega)]
            · rw [if_neg c3, if_neg (by omega)]
      rw [this]; exact Mq1) (fun fu q hI => by
    have n0 : alI .int q (m + 1) (1 : Int32) = some (w (gM (e 0) - 1)) := by
      have := hI.1.a0 (k := 1) (by decide)
      rw [setR_0] at this
      exact this
    have lim : ((84 : Int32) + ((3 : Int32) * w (gM (e 0) - 1))) ≤ w (84 + 3 * k + 3 * (gM (e 0) - 1 - k)) := by
      have ew : (84 : Int32) + ((3 : Int32) * w (gM (e 0) - 1)) = w (84 + 3 * (gM (e 0) - 1)) := by
        show w 84 + (w 3 * w (gM (e 0) - 1)) = _
        rw [w_mul, w_add]
      rw [ew, w_le (by omega) (by omega)]
      omega
    show f_X10_removeNet_L47 (fu + 1) q m _ = some q
    simp only [f_X10_removeNet_L47, hI.1.r0, n0, Option.bind_some, if_pos lim]) (k := 0) (s := x3) (Nat.zero_le _) ⟨M3, fr.refl _ _⟩
  have b1 : eC1 (e 0) k (3 * (gM (e 0) - 1 - k)) = eC2 (e 0) k 0 := by
    funext i
    unfold eC1 eC2
    by_cases c1 : i = 1
    · rw [if_pos c1, if_pos c1]
    · rw [if_neg c1, if_neg c1]
      by_cases c3 : 84 + 3 * k ≤ i ∧ i < 84 + 3 * (gM (e 0) - 1)
      · rw [if_pos c3, if_pos (by omega)]
      · rw [if_neg c3, if_neg (by omega), if_neg (by omega)]
  rw [b1] at M4
  obtain ⟨x5, e5, M5, F5⟩ := sloop0 (fun fu j (q : PH) => f_X10_removeNet_L84 fu q m (w j)) id 3 (fun j q => MoC q m (setR d2 0 (eC2 (e 0) k j)) ∧ fr (mW m) x4 q) (by omega) (fun fu j q hj hI => by
    obtain ⟨Mq, Fq⟩ := hI
    have n0 : alI .int q (m + 1) (1 : Int32) = some (w (gM (e 0) - 1)) := by
      have := Mq.a0 (k := 1) (by decide)
      rw [setR_0] at this
      exact this
    have ew : ((84 : Int32) + ((3 : Int32) * w (gM (e 0) - 1))) + w j = w (84 + 3 * (gM (e 0) - 1) + j) := by
      show (w 84 + (w 3 * w (gM (e 0) - 1))) + w j = _
      rw [w_mul, w_add, w_add]
    obtain ⟨q1, eq1, Mq1, Fq1⟩ := mput Mq (i := 84 + 3 * (gM (e 0) - 1) + j) 0 (by omega)
    refine ⟨q1, ?_, ?_, Fq.trans Fq1⟩
    · show f_X10_removeNet_L84 (fu + 1) q m (w j) = f_X10_removeNet_L84 fu q1 m (w (j + 1))
      simp only [f_X10_removeNet_L84, Mq.r0, n0, Option.bind_some, if_neg (show ¬ (3 : Int32) ≤ w j from lt_199 (n := 3) hj (by decide)), ew, eq1, w_succ]
    · have : eC2 (e 0) k (j + 1) = upd (eC2 (e 0) k j) (84 + 3 * (gM (e 0) - 1) + j) 0 := by
        funext i
        unfold eC2 upd
        dsimp only
        by_cases c1 : i = 1
        · rw [if_pos c1, if_neg (by omega), if_pos c1]
        · rw [if_neg c1, if_neg c1]
          by_cases c3 : 84 + 3 * k ≤ i ∧ i < 84 + 3 * (gM (e 0) - 1)
          · rw [if_pos c3, if_neg (by omega), if_pos c3]
          · rw [if_neg c3, if_neg c3]
            by_cases c2 : i = 84 + 3 * (gM (e 0) - 1) + j
            · rw [if_pos c2, if_pos (by omega)]
            · rw [if_neg c2]
              by_cases c4 : 84 + 3 * (gM (e 0) - 1) ≤ i ∧ i < 84 + 3 * (gM (e 0) - 1) + j
              · rw [if_pos c4, if_pos (by omega)]
              · rw [if_neg c4, if_neg (by omega)]
      rw [this]; exact Mq1) (fun fu q hI => by
    show f_X10_removeNet_L84 (fu + 1) q m (w 3) = some q
    simp only [f_X10_removeNet_L84, if_pos (show (3 : Int32) ≤ w 3 from is_ge)]) (k := 0) (s := x4) (Nat.zero_le _) ⟨M4, fr.refl _ _⟩
  have b2 : eC2 (e 0) k 3 = eCut (e 0) k := by
    funext i
    unfold eC2 eCut
    by_cases c1 : i = 1
    · rw [if_pos c1, if_pos c1]
    · rw [if_neg c1, if_neg c1]
      by_cases c3 : 84 + 3 * k ≤ i ∧ i < 84 + 3 * (gM (e 0) - 1)
      · rw [if_pos c3, if_pos c3]
      · rw [if_neg c3, if_neg c3]
        by_cases c4 : 84 + 3 * (gM (e 0) - 1) ≤ i ∧ i < 84 + 3 * (gM (e 0) - 1) + 3
        · rw [if_pos c4, if_pos (by omega)]
        · rw [if_neg c4, if_neg (by omega)]
  rw [b2] at M5
  have n5 : alI .int x5 (m + 1) (1 : Int32) = some (w (gM (e 0) - 1)) := by
    have := M5.a0 (k := 1) (by decide)
    rw [setR_0] at this
    exact this
  have ek : (84 : Int32) + ((3 : Int32) * w k) = w (84 + 3 * k) := by
    show w 84 + (w 3 * w k) = _
    rw [w_mul, w_add]
  have e4' : f_X10_removeNet_L47 FV x3 m (w (84 + 3 * k)) = some x4 := e4
  have e5' : f_X10_removeNet_L84 FV x4 m (0 : Int32) = some x5 := e5
  rw [an_5, ef_5, nv_w (show k < 2147483648 by omega)]
  refine ⟨x5, d2, ?_, M5, A2, (((F1.trans F2).trans F3).trans F4).trans F5⟩
  unfold f_X10_removeNet
  simp only [M.gd, i1, Option.bind_some, if_neg (show ¬ (true = false) by decide)]
  unfold f_X10_removeNet_J14
  simp only [M.gd, e1, Option.bind_some, if_true, M1.r0, M1.gd, e2, M2.r0, n1, el, e3', ek, e4', e5', M5.r0, n5]
end MCUT
