/-! the reference hauls -/
section MHAUL
variable {B : Nat} {h h1 : PH} {m c k : Nat} {e e1 : CS} {K : Nat → GS} {x y z : Int32}
theorem mnet_bad2 (O : Ok B (e 0)) (M : MoC h m e) (q : isM (e 0) x = false) : ∃ h1, f_X10_fails h m (1 : Int32) = some (true, h1) ∧ f_X10_isNet h m x = some false ∧ MoC h1 m (eF e 1) ∧ fr (mW m) h h1 := by
  have H : Mg B h m (e 0) := ⟨O, e, M, rfl⟩
  obtain ⟨h1, e1, M1, F1⟩ := mfail1 M
  exact ⟨h1, e1, by rw [misNet H, q], M1, F1⟩
theorem mhaul_none (O : Ok B (e 0)) (M : MoC h m e) (q : isM (e 0) x = false) : ∃ h1, f_X10_haul h m x = some (0, h1) ∧ MoC h1 m (eF e 1) ∧ fr (mW m) h h1 := by
  obtain ⟨h1, e1, i1, M1, F1⟩ := mnet_bad2 O M q
  refine ⟨h1, ?_, M1, F1⟩
  unfold f_X10_haul
  simp only [M.gd, i1, Option.bind_some, if_true]
  unfold f_X10_haul_J14
  simp only [M.gd, e1, Option.bind_some, if_neg (show ¬ (true = false) by decide)]
theorem mhaul_go (O : Ok B (e 0)) (M : MoC h m e) (hk : k < gM (e 0)) : ∃ h1, MoC h1 m (eF e 0) ∧ fr (mW m) h h1 ∧ f_X10_haul h m (w k) = (if e 0 3 = 0 then (f_X10_denies h1 m (2 : Int32) (2 : Int32) (w (gS (e 0)))).bind fun p => some (p.1, p.2) else if gS (e 0) = 0 ∧ gK (e 0) k < 10 then (f_X10_denies h1 m (2 : Int32) (3 : Int32) (w (gK (e 0) k))).bind fun p => some (p.1, p.2) else f_X10_haul_J73 h1 m (w k)) := by
  have hm := O.m
  have H : Mg B h m (e 0) := ⟨O, e, M, rfl⟩
  have i1 : f_X10_isNet h m (w k) = some true := by rw [misNet H, (isM_iff (g := e 0) (by omega)).mpr ⟨k, hk, rfl⟩]
  obtain ⟨x1, e1, M1, F1⟩ := mfail0 M
  have H1 := mg0 O M1
  have n3 : alI .int x1 (m + 1) (3 : Int32) = some (e 0 3) := H1.a (i := 3) (by decide)
  refine ⟨x1, M1, F1, ?_⟩
  unfold f_X10_haul
  simp only [M.gd, i1, Option.bind_some, if_neg (show ¬ (true = false) by decide)]
  unfold f_X10_haul_J14
  simp only [M.gd, e1, Option.bind_some, if_true, M1.r0, n3, M1.gd, mseason H1]
  by_cases c1 : e 0 3 = 0
  · rw [if_neg (fun z => z c1), if_pos c1]
  · rw [if_pos c1, if_neg c1]
    have l := gS_lt (e 0)
    have es : (w (gS (e 0)) = (0 : Int32)) = (gS (e 0) = 0) := propext (w_inj (b := 0) (by omega) (by decide))
    simp only [es]
    by_cases c2 : gS (e 0) = 0
    · rw [if_neg (fun z => z c2)]
      have kk := (O.net hk).2.2.2.2.2.2.2
      have e2 : ((10 : Int32) ≤ w (gK (e 0) k)) = (10 ≤ gK (e 0) k) := propext (w_le (a := 10) (by decide) (by omega))
      simp only [H1.by2 hk, Option.bind_some, e2]
      by_cases c3 : 10 ≤ gK (e 0) k
      · rw [if_pos c3, if_neg (by omega)]
      · rw [if_neg c3, if_pos (by omega)]
    · rw [if_pos c2, if_neg (by omega)]
theorem mhaul_no (O : Ok B (e 0)) (M : MoC h m e) (hk : k < gM (e 0)) (c1 : e 0 3 = 0) : ∃ h1, f_X10_haul h m (w k) = some (0, h1) ∧ MoC h1 m (eDn (eF e 0) 2 2 (w (gS (e 0)))) ∧ fr (mW m) h h1 := by
  obtain ⟨x1, M1, F1, E⟩ := mhaul_go O M hk
  obtain ⟨x2, e2, M2, F2⟩ := mdenies M1 2 2 (w (gS (e 0)))
  refine ⟨x2, ?_, M2, F1.trans F2⟩
  rw [E, if_pos c1, e2]; rfl
theorem mhaul_fine (O : Ok B (e 0)) (M : MoC h m e) (hk : k < gM (e 0)) (c1 : ¬ e 0 3 = 0) (c2 : gS (e 0) = 0 ∧ gK (e 0) k < 10) : ∃ h1, f_X10_haul h m (w k) = some (0, h1) ∧ MoC h1 m (eDn (eF e 0) 2 3 (w (gK (e 0) k))) ∧ fr (mW m) h h1 := by
  obtain ⟨x1, M1, F1, E⟩ := mhaul_go O M hk
  obtain ⟨x2, e2, M2, F2⟩ := mdenies M1 2 3 (w (gK (e 0) k))
  refine ⟨x2, ?_, M2, F1.trans F2⟩
  rw [E, if_neg c1, if_pos c2, e2]; rfl
theorem mhaul_ok (O : Ok B (e 0)) (M : MoC h m e) (A : KA e K c) (q : ju (e 0) 6 x y z = 0) : ∃ h1 e1, f_X10_haul h m x = some (an (e 0) 6 x y, h1) ∧ MoC h1 m (setR e1 0 (ef (e 0) 6 x y z)) ∧ KpO e K c (e 0) e1 ∧ fr (mW m) h h1 := by
  have hn := O.n
  have hm := O.m
  obtain ⟨k, rfl, hk, c1, c2⟩ := need_6 O q
  obtain ⟨x1, M1, F1, E⟩ := mhaul_go O M hk
  have H1 := mg0 O M1
  have hz := gZ_small O k
  obtain ⟨x2, d2, e2, M2, A2, r2, F2⟩ := mkeep0 M1 A
  have M2' : MoC x2 m (setR d2 0 (e 0)) := by rw [← r2, setR_id]; exact M2
  have e0 : ∀ n, eWs (e 0) (gZ (e 0) k) 1 n 0 = w (gN (e 0)) := fun n => by rw [eWs_ne (fun k _ => by omega), O.g0]
  obtain ⟨x3, e3, M3, F3⟩ := sloop0 (fun fu j (q : PH) => f_X10_haul_L89 fu q m (w (gZ (e 0) k)) (w j)) id (gN (e 0)) (fun j q => MoC q m (setR d2 0 (eWs (e 0) (gZ (e 0) k) 1 j)) ∧ fr (mW m) x2 q) (by omega) (fun fu j q hj hI => by
    obtain ⟨Mq, Fq⟩ := hI
    have n0 : alI .int q (m + 1) (0 : Int32) = some (w (gN (e 0))) := by
      have := Mq.a0 (k := 0) (by decide)
      rw [setR_0, e0] at this
      exact this
    by_cases c : (gZ (e 0) k).testBit j = true
    · obtain ⟨q1, eq1, Mq1, Fq1⟩ := mlays Mq (k := j) (j := 2) 1 (by omega) (by decide)
      have eq1' : f_X10_lays q m (w j) (2 : Int32) (1 : Int32) = some q1 := eq1
      refine ⟨q1, ?_, ?_, Fq.trans Fq1⟩
      · show f_X10_haul_L89 (fu + 1) q m (w (gZ (e 0) k)) (w j) = f_X10_haul_L89 fu q1 m (w (gZ (e 0) k)) (w (j + 1))
        simp only [f_X10_haul_L89, Mq.r0, n0, Option.bind_some, if_neg (is_lt hj (by omega)), w_bit (show gZ (e 0) k < 2147483648 by omega) (show j < 31 by omega), bit_1, c, Mq.gd, eq1', w_succ]
        rw [if_neg (fun z => z trivial)]
      · have : eWs (e 0) (gZ (e 0) k) 1 (j + 1) = upd (eWs (e 0) (gZ (e 0) k) 1 j) (44 + 4 * j + 2) 1 := by
          show (if (gZ (e 0) k).testBit j = true then _ else _) = _
          rw [if_pos c, show 44 + 4 * j + 2 = 46 + 4 * j by omega]; rfl
        rw [this]; exact Mq1
    · refine ⟨q, ?_, ?_, Fq⟩
      · show f_X10_haul_L89 (fu + 1) q m (w (gZ (e 0) k)) (w j) = f_X10_haul_L89 fu q m (w (gZ (e 0) k)) (w (j + 1))
        simp only [f_X10_haul_L89, Mq.r0, n0, Option.bind_some, if_neg (is_lt hj (by omega)), w_bit (show gZ (e 0) k < 2147483648 by omega) (show j < 31 by omega), bit_1, w_succ]
        rw [if_pos c]
      · have : eWs (e 0) (gZ (e 0) k) 1 (j + 1) = eWs (e 0) (gZ (e 0) k) 1 j := by
          show (if (gZ (e 0) k).testBit j = true then _ else _) = _
          rw [if_neg c]
        rw [this]; exact Mq) (fun fu q hI => by
    have n0 : alI .int q (m + 1) (0 : Int32) = some (w (gN (e 0))) := by
      have := hI.1.a0 (k := 0) (by decide)
      rw [setR_0, e0] at this
      exact this
    show f_X10_haul_L89 (fu + 1) q m (w (gZ (e 0) k)) (w (gN (e 0))) = some q
    simp only [f_X10_haul_L89, hI.1.r0, n0, Option.bind_some, if_pos is_ge]) (k := 0) (s := x2) (Nat.zero_le _) ⟨M2', fr.refl _ _⟩
  have e3' : f_X10_haul_L89 FV x2 m (w (gZ (e 0) k)) (0 : Int32) = some x3 := e3
  have n5 : alI .int x3 (m + 1) (5 : Int32) = some (e 0 5) := by
    have := M3.a0 (k := 5) (by decide)
    rw [setR_0, eWs_ne (fun k _ => by omega)] at this
    exact this
  obtain ⟨x4, e4, M4, F4⟩ := mput M3 (i := 5) (e 0 5 + w (pop (gZ (e 0) k))) (by decide)
  have e4' : asI .int x3 (m + 1) (5 : Int32) (e 0 5 + w (pop (gZ (e 0) k))) = some x4 := e4
  rw [an_6, ef_6, nv_w (show k < 2147483648 by omega)]
  refine ⟨x4, d2, ?_, ?_, A2, ((F1.trans F2).trans F3).trans F4⟩
  · rw [E, if_neg c1, if_neg c2]
    unfold f_X10_haul_J73
    simp only [M1.gd, mcatches H1 hk, Option.bind_some, M1.r0, e2, e3', M3.r0, n5, mbits (show gZ (e 0) k < 2147483648 by omega), e4']
  · have : eHaul (e 0) (gZ (e 0) k) = upd (eWs (e 0) (gZ (e 0) k) 1 (gN (e 0))) 5 (e 0 5 + w (pop (gZ (e 0) k))) := by
      unfold eHaul eCau
      rw [eWs_ne (fun k _ => by omega)]
    rw [this]; exact M4
end MHAUL
