/-! THE LINE: appends of the class -/
section LINE2
variable {B : Nat} {h h0 h1 h2 : PH} {b b0 n c v i : Nat} {l : Nat → Int32}
/-- a character put to the line's end -/
theorem apc_ok (S : LnS h0 b0 h l n) (hc : c < 128) (hn : n < 34) : ∃ h1, f_J4_append_cf468 h 129 (w c) = some (129, h1) ∧ LnS h0 b0 h1 (upd l n (w c)) (n + 1) := by
  obtain ⟨b, L, F0, B0, hh⟩ := S
  have hl := F0.1
  obtain ⟨p1, b1, e1, L1, ⟨mb, cap, f, q4, q5, q6, q7, q8, q9, q10⟩, F1, B1⟩ := ens_ok L (k := n + 1) (by omega) (by omega)
  have g0 : gd h 129 1 = some () := by
    obtain ⟨x1, x2, x3, mb', cap', f', x4, -⟩ := L
    exact gd_of x4
  have i3 : rdI h 129 1 3 = some (w n) := by
    obtain ⟨x1, x2, x3, mb', cap', f', x4, -⟩ := L
    exact rdI_of x4 rfl
  have g1 : gd p1 129 1 = some () := gd_of q4
  have j1 : rdI p1 129 1 1 = some 0 := rdI_of q4 rfl
  have j3 : rdI p1 129 1 3 = some (w n) := rdI_of q4 rfl
  have r0 : rdR p1 129 1 0 = some b1 := rdR_of q4 rfl
  have w1 := wr_of (v := .int (w (n + 1))) (show kK ≤ 129 by decide) q4 (show 3 < 4 by decide)
  have b129 : b1 ≠ 129 := by rcases L1.1 with z | z <;> omega
  have b86 : kK ≤ b1 := by show 86 ≤ b1; rcases L1.1 with z | z <;> omega
  have k1 : (p1.1, z_up p1.2 129 (.inr (1, [Value.ref b1, .int 0, .int mb, .int (w n)].set 3 (.int (w (n + 1)))))).2 b1 = .inl (.byte, cap, .inl f) := (z_up_n _ _ b129).trans q5
  have s1 := asI_of (k := n) (x := zi2b (w c)) b86 k1 (by omega) (by omega)
  rw [by_nar c hc] at s1
  refine ⟨_, ?_, LnS.step F0 B0 hh (h1 := (p1.1, z_up (z_up p1.2 129 (.inr (1, [Value.ref b1, .int 0, .int mb, .int (w n)].set 3 (.int (w (n + 1)))))) b1 (.inl (.byte, cap, .inl (upd f n (w c)))))) ⟨F1.1, fun x hx nx => ?_⟩ (b1 := b1) ⟨L1.1, L1.2.1, by omega, mb, cap, upd f n (w c), (z_up_n _ _ (fun z => b129 z.symm)).trans (z_up_s _ _ _), z_up_s _ _ _, q7, q8, fun i hi => ?_, fun i hi => ?_⟩ B1⟩
  · unfold f_J4_append_cf468 f_J5_append_3fe6f f_J5_isLatin1_aae02
    have t0 : ¬ ¬ (0 : Int32) = 0 := fun z => z rfl
    simp only [g0, i3, w_succ, e1, g1, j1, Option.bind_some, if_neg t0, if_neg (show ¬ (true = false) by decide), by_enc c hc, r0, j3, w1, s1]
    rw [if_neg (fun z => z trivial)]
    rfl
  · exact (z_up_n _ _ (fun z => by
      rcases B1 with y | y
      · exact nx (Or.inr (z.trans y))
      · omega)).trans ((z_up_n _ _ (fun z => nx (Or.inl z))).trans (F1.2 x hx nx))
  · by_cases z : i = n
    · exact ⟨c, hc, by rw [z, upd_eq]⟩
    · rw [upd_ne z]; exact q9 i hi
  · by_cases z : i = n
    · rw [z, upd_eq, upd_eq]
    · rw [upd_ne z, upd_ne z]; exact q10 i (by omega)
/-- a number's characters put to a line's end -/
def apN (l : Nat → Int32) (n v : Nat) : Nat → Int32 := if v ≤ 9 then upd l n (w (48 + v)) else upd (upd l n (w (48 + v / 10))) (n + 1) (w (48 + v % 10))
def szN (v : Nat) : Nat := if v ≤ 9 then 1 else 2
/-- the digits' rows -/
def DgC (h : PH) : Prop := ∃ fo ft, h.2 84 = .inl (.byte, 100, .inl fo) ∧ h.2 85 = .inl (.byte, 100, .inl ft) ∧ ∀ i, i < 100 → fo i = w (48 + i % 10) ∧ ft i = w (48 + i / 10)
theorem size_ok : ∀ v, v < 100 → f_J6_stringSize_0f7a4 (w v) = some (w (szN v)) := by
  have key : ∀ v, v < 100 → ∀ fu, f_J6_stringSize_0f7a4_L16 (fu + 2) (-(w v)) 0 (-10) 1 = some (Sum.inl (w (szN v))) := by
    intro v hv fu
    have a1 : ∀ v, v < 100 → (¬ (w v < 0)) ∧ (if (-(w v)) ≤ (-10 : Int32) then szN v = 2 else szN v = 1) ∧ (¬ (-(w v)) ≤ (10 : Int32) * (-10)) := by decide +kernel
    obtain ⟨-, a2, a3⟩ := a1 v hv
    show f_J6_stringSize_0f7a4_L16 (fu + 1 + 1) (-(w v)) 0 (-10) 1 = _
    unfold f_J6_stringSize_0f7a4_L16
    rw [if_neg (by decide)]
    by_cases z : (-(w v)) ≤ (-10 : Int32)
    · rw [if_pos z] at a2 ⊢
      unfold f_J6_stringSize_0f7a4_L16
      rw [if_neg (by decide), if_neg a3, a2]
      rfl
    · rw [if_neg z] at a2 ⊢
      rw [a2]; rfl
  intro v hv
  have n0 : ¬ w v < 0 := w_nonneg (by omega)
  have k := key v hv 4094
  unfold f_J6_stringSize_0f7a4
  rw [if_neg n0]
  unfold f_J6_stringSize_0f7a4_J11
  have ef : FV = 4094 + 2 := FV_eq
  rw [ef, k]
  rfl
theorem szN_1 (hv : v ≤ 9) : szN v = 1 := if_pos hv
theorem szN_2 (hv : ¬ v ≤ 9) : szN v = 2 := if_neg hv
/-- a number put to the line's end -/
theorem api_ok (S : LnS h0 b0 h l n) (D : DgC h) (hv : v < 100) (hn : n + szN v ≤ 34) : ∃ h1, f_J4_append_bf812 h 129 (w v) = some (129, h1) ∧ LnS h0 b0 h1 (apN l n v) (n + szN v) := by
  obtain ⟨b, L, F0, B0, hh⟩ := S
  have hl := F0.1
  have zs : szN v = 1 ∨ szN v = 2 := by unfold szN; split <;> simp
  obtain ⟨p1, b1, e1, L1, ⟨mb, cap, f, q4, q5, q6, q7, q8, q9, q10⟩, F1, B1⟩ := ens_ok L (k := n + szN v) (by omega) (by omega)
  obtain ⟨fo, ft, d1, d2, d3⟩ := D
  have k84 : p1.2 84 = .inl (.byte, 100, .inl fo) := (F1.2 84 (by omega) (fun z => by rcases z with z | z <;> rcases L.1 with y | y <;> omega)).trans d1
  have k85 : p1.2 85 = .inl (.byte, 100, .inl ft) := (F1.2 85 (by omega) (fun z => by rcases z with z | z <;> rcases L.1 with y | y <;> omega)).trans d2
  have g0 : gd h 129 1 = some () := by
    obtain ⟨x1, x2, x3, mb', cap', f', x4, -⟩ := L
    exact gd_of x4
  have i3 : rdI h 129 1 3 = some (w n) := by
    obtain ⟨x1, x2, x3, mb', cap', f', x4, -⟩ := L
    exact rdI_of x4 rfl
  have g1 : gd p1 129 1 = some () := gd_of q4
  have j1 : rdI p1 129 1 1 = some 0 := rdI_of q4 rfl
  have r0 : rdR p1 129 1 0 = some b1 := rdR_of q4 rfl
  have b129 : b1 ≠ 129 := by rcases L1.1 with z | z <;> omega
  have b86 : kK ≤ b1 := by show 86 ≤ b1; rcases L1.1 with z | z <;> omega
  have neg : ∀ v, v < 100 → -(-(w v)) = w v ∧ (-100 : Int32) < -(w v) ∧ ((-9 : Int32) ≤ -(w v) ↔ v ≤ 9) ∧ (0 : Int32) ≤ w v := by decide +kernel
  obtain ⟨v1, v2, v3, v4⟩ := neg v hv
  have ad := w_add n (szN v)
  have m1 : w (n + szN v) + (-1 : Int32) = w (n + szN v - 1) := by
    have := w_sub (a := n + szN v) (b := 1) (by omega)
    rw [← this]
    exact (Int32.sub_eq_add_neg _ _).symm
  have a84 : alI .byte p1 84 (w v) = some (fo v) := alI_of k84 (by decide) hv
  have L22 : f_J6_getChars_ba4f3_L22 FV p1 (-(w v)) b1 (w (n + szN v)) (0 : Int32) = some (-(w v), w (n + szN v), p1) := by
    obtain ⟨fu, ef⟩ := FV_s
    rw [ef]
    unfold f_J6_getChars_ba4f3_L22
    exact if_pos v2
  have s1 := asI_of (k := n + szN v - 1) (x := fo v) b86 q5 (by omega) (by omega)
  rw [(d3 v hv).1, by_nar2 _ (by omega)] at s1
  by_cases c1 : v ≤ 9
  · have sz := szN_1 c1
    have q7' : n + 1 ≤ cap ∧ n + 1 ≤ 34 := by omega
    rw [sz] at e1 ad m1 L22 s1 ⊢
    have em : v % 10 = v := by omega
    rw [em] at s1
    have w1 := wr_of (h := (p1.1, z_up p1.2 b1 (.inl (.byte, cap, .inl (upd f (n + 1 - 1) (w (48 + v))))))) (v := .int (w (n + 1))) (show kK ≤ 129 by decide) ((z_up_n _ _ (fun z => b129 z.symm)).trans q4) (show 3 < 4 by decide)
    refine ⟨_, ?_, LnS.step F0 B0 hh (h1 := (p1.1, z_up (z_up p1.2 b1 (.inl (.byte, cap, .inl (upd f (n + 1 - 1) (w (48 + v)))))) 129 (.inr (1, [Value.ref b1, .int 0, .int mb, .int (w n)].set 3 (.int (w (n + 1))))))) ⟨F1.1, fun x hx nx => ?_⟩ (b1 := b1) ⟨L1.1, L1.2.1, q7'.2, mb, cap, upd f (n + 1 - 1) (w (48 + v)), z_ups _ _ _ _, (z_up_n _ _ b129).trans (z_up_s _ _ _), q7'.1, q8, fun i hi => ?_, fun i hi => ?_⟩ B1⟩
    · unfold f_J4_append_bf812 f_J5_append_c97b9 f_J5_isLatin1_aae02 f_J6_getChars_ba4f3 f_J6_getChars_ba4f3_J12
      have t0 : ¬ ¬ (0 : Int32) = 0 := fun z => z rfl
      simp only [g0, i3, size_ok v hv, sz, ad, e1, not_true_eq_false, if_false, g1, j1, Option.bind_some, if_neg t0, if_neg (show ¬ (true = false) by decide), r0, if_pos v4, L22, v1, a84, m1, (d3 v hv).1, em, s1, if_pos (v3.mpr c1), if_true, w1]
    · exact (z_up_n _ _ (fun z => nx (Or.inl z))).trans ((z_up_n _ _ (fun z => by
        rcases B1 with y | y
        · exact nx (Or.inr (z.trans y))
        · omega)).trans (F1.2 x hx nx))
    · by_cases z : i = n + 1 - 1
      · exact ⟨48 + v, by omega, by rw [z, upd_eq]⟩
      · rw [upd_ne z]; exact q9 i hi
    · unfold apN
      rw [if_pos c1]
      by_cases z : i = n
      · rw [z, upd_eq, show n + 1 - 1 = n by omega, upd_eq]
      · rw [upd_ne z, upd_ne (by omega)]; exact q10 i (by omega)
  · have sz := szN_2 c1
    have q7' : n + 2 ≤ cap ∧ n + 2 ≤ 34 := by omega
    rw [sz] at e1 ad m1 L22 s1 ⊢
    have m2 : w (n + 2 - 1) + (-1 : Int32) = w n := by
      have := w_sub (a := n + 2 - 1) (b := 1) (by omega)
      rw [show n + 2 - 1 - 1 = n by omega] at this
      rw [← this]
      exact (Int32.sub_eq_add_neg _ _).symm
    have k85' : (p1.1, z_up p1.2 b1 (.inl (.byte, cap, .inl (upd f (n + 2 - 1) (w (48 + v % 10)))))).2 85 = .inl (.byte, 100, .inl ft) := (z_up_n _ _ (by rcases L1.1 with z | z <;> omega)).trans k85
    have a85 := alI_of (k := v) k85' (by decide) hv
    have s2 := asI_of (h := (p1.1, z_up p1.2 b1 (.inl (.byte, cap, .inl (upd f (n + 2 - 1) (w (48 + v % 10))))))) (k := n) (x := ft v) b86 (z_ups _ _ _ _) (by omega) (show n < cap by omega)
    rw [(d3 v hv).2, by_nar2 _ (by omega)] at s2
    have w1 := wr_of (h := (p1.1, z_up (z_up p1.2 b1 (.inl (.byte, cap, .inl (upd f (n + 2 - 1) (w (48 + v % 10)))))) b1 (.inl (.byte, cap, .inl (upd (upd f (n + 2 - 1) (w (48 + v % 10))) n (w (48 + v / 10))))))) (v := .int (w (n + 2))) (show kK ≤ 129 by decide) ((z_up_n _ _ (fun z => b129 z.symm)).trans ((z_up_n _ _ (fun z => b129 z.symm)).trans q4)) (show 3 < 4 by decide)
    refine ⟨_, ?_, LnS.step F0 B0 hh (h1 := (p1.1, z_up (z_up (z_up p1.2 b1 (.inl (.byte, cap, .inl (upd f (n + 2 - 1) (w (48 + v % 10)))))) b1 (.inl (.byte, cap, .inl (upd (upd f (n + 2 - 1) (w (48 + v % 10))) n (w (48 + v / 10)))))) 129 (.inr (1, [Value.ref b1, .int 0, .int mb, .int (w n)].set 3 (.int (w (n + 2))))))) ⟨F1.1, fun x hx nx => ?_⟩ (b1 := b1) ⟨L1.1, L1.2.1, q7'.2, mb, cap, upd (upd f (n + 2 - 1) (w (48 + v % 10))) n (w (48 + v / 10)), z_ups _ _ _ _, (z_up_n _ _ b129).trans (z_up_s _ _ _), q7'.1, q8, fun i hi => ?_, fun i hi => ?_⟩ B1⟩
    · unfold f_J4_append_bf812 f_J5_append_c97b9 f_J5_isLatin1_aae02 f_J6_getChars_ba4f3 f_J6_getChars_ba4f3_J12
      have t0 : ¬ ¬ (0 : Int32) = 0 := fun z => z rfl
      have n9 : ¬ (-9 : Int32) ≤ -(w v) := fun z => c1 (v3.mp z)
      simp only [g0, i3, size_ok v hv, sz, ad, e1, not_true_eq_false, if_false, g1, j1, Option.bind_some, if_neg t0, if_neg (show ¬ (true = false) by decide), r0, if_pos v4, L22, v1, a84, m1, (d3 v hv).1, s1, if_neg n9, a85, m2, (d3 v hv).2, s2, if_true, w1]
    · exact (z_up_n _ _ (fun z => nx (Or.inl z))).trans ((z_up_n _ _ (fun z => by
        rcases B1 with y | y
        · exact nx (Or.inr (z.trans y))
        · omega)).trans ((z_up_n _ _ (fun z => by
        rcases B1 with y | y
        · exact nx (Or.inr (z.trans y))
        · omega)).trans (F1.2 x hx nx)))
    · by_cases z : i = n
      · exact ⟨48 + v / 10, by omega, by rw [z, upd_eq]⟩
      · rw [upd_ne z]
        by_cases z2 : i = n + 2 - 1
        · exact ⟨48 + v % 10, by omega, by rw [z2, upd_eq]⟩
        · rw [upd_ne z2]; exact q9 i hi
    · unfold apN
      rw [if_neg c1]
      by_cases z : i = n
      · rw [z, upd_eq, upd_ne (by omega), upd_eq]
      · rw [upd_ne z]
        by_cases z2 : i = n + 1
        · rw [z2, show n + 2 - 1 = n + 1 by omega, upd_eq, upd_eq]
        · rw [upd_ne (by omega), upd_ne z2, upd_ne z]; exact q10 i (by omega)
end LINE2
