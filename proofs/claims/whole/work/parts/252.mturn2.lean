/-! the reference's citations: denied, and done -/
section MTURN2
variable {B : Nat} {h h1 : PH} {m c k j : Nat} {e e1 : CS} {K : Nat → GS} {x y t v : Int32}
theorem mciting (H : Mg B h m (e 0)) (hk : k < gN (e 0)) (hj : j < gN (e 0)) : f_X10_isCiting h m (w k) (w j) = some ((gU (e 0) k).testBit j) := by
  have hn := H.ok.n
  have gu := gU_lt H.ok hk
  unfold f_X10_isCiting
  simp only [H.gd, H.of3 hk, Option.bind_some, w_bit (show gU (e 0) k < 2147483648 by omega) (show j < 31 by omega), bit_1]
  cases (gU (e 0) k).testBit j <;> simp
/-- both notes are there and differ -/
theorem mturn_go (O : Ok B (e 0)) (M : MoC h m e) (hk : k < gN (e 0)) (hj : j < gN (e 0)) (hkj : k ≠ j) : ∃ h1, MoC h1 m (eF e 0) ∧ fr (mW m) h h1 ∧ f_X10_turns h m (w k) (w j) v = (if ¬ zb ((gU (e 0) k).testBit j) = v then (f_X10_keeps h1 m (m + 1)).bind fun p12 => (gd p12 m 12).bind fun _ => (f_X10_of p12 m (w k) (3 : Int32)).bind fun p15 => (gd p12 m 12).bind fun _ => (f_X10_lays p12 m (w k) (3 : Int32) (p15 ^^^ (zshl (1 : Int32) (w j)))).bind fun p18 => (gd p18 m 12).bind fun _ => (f_X10_of p18 m (w k) (3 : Int32)).bind fun p21 => (f_X10_bits p21).bind fun p23 => some (p23, p18) else (f_X10_denies h1 m (3 : Int32) (5 : Int32) (w (pop (gU (e 0) k)))).bind fun p31 => some (p31.1, p31.2)) := by
  have hn := O.n
  have gu := gU_lt O hk
  have c1 : ¬ isN (e 0) (w k) = false := by rw [(isN_iff (g := e 0) (by omega)).mpr ⟨k, hk, rfl⟩]; decide
  have c2 : isN (e 0) (w j) = true := (isN_iff (g := e 0) (by omega)).mpr ⟨j, hj, rfl⟩
  obtain ⟨x1, e1, M1, F1⟩ := mturn_both O M c1 c2
  obtain ⟨x2, e2, M2, F2⟩ := mfailF M1 0 (by decide)
  have e2' : f_X10_fails x1 m (0 : Int32) = some (false, x2) := e2
  have H2 := mg0 O M2
  have ne : ¬ w k = w j := fun z => hkj ((w_inj (by omega) (by omega)).mp z)
  refine ⟨x2, M2, F1.trans F2, ?_⟩
  unfold f_X10_turns
  simp only [M.gd, e1, Option.bind_some, if_neg (show ¬ (false = true) by decide)]
  rw [if_pos ne]
  unfold f_X10_turns_J20
  simp only [M1.gd, e2', Option.bind_some, if_true, M2.gd, mciting H2 hk hj, M2.r0, H2.of3 hk, mbits (show gU (e 0) k < 2147483648 by omega)]
theorem mturn_deny (O : Ok B (e 0)) (M : MoC h m e) (hk : k < gN (e 0)) (hj : j < gN (e 0)) (hkj : k ≠ j) (hv : zb ((gU (e 0) k).testBit j) = v) : ∃ h1, f_X10_turns h m (w k) (w j) v = some (0, h1) ∧ MoC h1 m (eDn (eF e 0) 3 5 (w (pop (gU (e 0) k)))) ∧ fr (mW m) h h1 := by
  obtain ⟨x1, M1, F1, E⟩ := mturn_go (v := v) O M hk hj hkj
  obtain ⟨x2, e2, M2, F2⟩ := mdenies M1 3 5 (w (pop (gU (e 0) k)))
  refine ⟨x2, ?_, M2, F1.trans F2⟩
  rw [E, if_neg (fun z => z hv), e2]; rfl
theorem mturn_ok (O : Ok B (e 0)) (M : MoC h m e) (A : KA e K c) (hk : k < gN (e 0)) (hj : j < gN (e 0)) (hkj : k ≠ j) (hv : ¬ zb ((gU (e 0) k).testBit j) = v) : ∃ h1 e1, f_X10_turns h m (w k) (w j) v = some (w (pop (gU (e 0) k ^^^ 2 ^ j)), h1) ∧ MoC h1 m (setR e1 0 (eCite (e 0) k j)) ∧ KpO e K c (e 0) e1 ∧ fr (mW m) h h1 := by
  have hn := O.n
  have gu := gU_lt O hk
  obtain ⟨x1, M1, F1, E⟩ := mturn_go (v := v) O M hk hj hkj
  obtain ⟨x2, d2, e2, M2, A2, r2, F2⟩ := mkeep0 M1 A
  have M2' : MoC x2 m (setR d2 0 (e 0)) := by rw [← r2, setR_id]; exact M2
  have H2 : Mg B x2 m (e 0) := ⟨O, _, M2, r2⟩
  have ux : gU (e 0) k ^^^ 2 ^ j < 1024 := Nat.xor_lt_two_pow (n := 10) gu (Nat.pow_lt_pow_right (by decide) (by omega))
  have ex : w (gU (e 0) k) ^^^ zshl (1 : Int32) (w j) = w (gU (e 0) k ^^^ 2 ^ j) := by rw [w_shl j (by omega), w_xor]
  obtain ⟨x3, e3, M3, F3⟩ := mlays M2' (k := k) (j := 3) (w (gU (e 0) k ^^^ 2 ^ j)) (by omega) (by decide)
  have e3' : f_X10_lays x2 m (w k) (3 : Int32) (w (gU (e 0) k ^^^ 2 ^ j)) = some x3 := e3
  have o3 : f_X10_of x3 m (w k) (3 : Int32) = some (w (gU (e 0) k ^^^ 2 ^ j)) := by
    have := mof M3 (k := k) (by omega) (j := 3) (by decide)
    rw [setR_0, upd_eq] at this
    exact this
  refine ⟨x3, d2, ?_, ?_, A2, (F1.trans F2).trans F3⟩
  · rw [E, if_pos hv]
    simp only [e2, Option.bind_some, M2.gd, H2.of3 hk, ex, e3', M3.gd, o3, mbits (show gU (e 0) k ^^^ 2 ^ j < 2147483648 by omega)]
  · have : eCite (e 0) k j = upd (e 0) (44 + 4 * k + 3) (w (gU (e 0) k ^^^ 2 ^ j)) := by
      unfold eCite
      rw [show 44 + 4 * k + 3 = 47 + 4 * k by omega]
    rw [this]; exact M3
end MTURN2
