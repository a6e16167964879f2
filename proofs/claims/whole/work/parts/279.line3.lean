/-! THE LINE written: both sides -/
section LINE3
variable {B : Nat} {h h0 h1 h2 : PH} {b b0 n c v i k j m : Nat} {l : Nat → Int32} {P : (Nat → Int32) × Nat} {g : GS} {e e1 : CS} {so : Option Nat}
def aC (P : (Nat → Int32) × Nat) (c : Nat) : (Nat → Int32) × Nat := (upd P.1 P.2 (w c), P.2 + 1)
def aN (P : (Nat → Int32) × Nat) (v : Nat) : (Nat → Int32) × Nat := (apN P.1 P.2 v, P.2 + szN v)
def wcn (n : Nat) : Nat := if n = 0 then 102 else if n = 1 then 104 else 108
theorem wcn_w (n : Nat) : w (wcn n) = wc n := by
  unfold wcn wc
  split
  · rfl
  · split <;> rfl
theorem wcn_lt (n : Nat) : wcn n < 128 := by
  unfold wcn
  split
  · decide
  · split <;> decide
theorem szN_le (v : Nat) : szN v ≤ 2 := by unfold szN; split <;> decide
theorem szN_lo (hv : v ≤ 9) : szN v = 1 := if_pos hv
def lhd (g : GS) (k : Nat) (P : (Nat → Int32) × Nat) : (Nat → Int32) × Nat := aC (aN (aC (aN (aC (aN P k) 112) (gP g k)) 119) (gT g k)) (wcn (gH g k))
def ltl (g : GS) (k : Nat) : Nat → (Nat → Int32) × Nat → (Nat → Int32) × Nat
  | 0, P => P
  | j + 1, P => if (gU g k).testBit j = true then aN (aC (ltl g k j P) 62) j else ltl g k j P
theorem ltl_le (g : GS) (k : Nat) (P : (Nat → Int32) × Nat) : ∀ j, j ≤ 10 → (ltl g k j P).2 ≤ P.2 + 2 * j := by
  intro j
  induction j with
  | zero => intro _; exact Nat.le_refl _
  | succ j ih =>
    intro hj
    have := ih (by omega)
    unfold ltl
    split
    · show (ltl g k j P).2 + 1 + szN j ≤ _
      rw [szN_lo (by omega)]
      omega
    · omega
theorem LnS.apc (S : LnS h0 b0 h P.1 P.2) (hc : c < 128) (hn : P.2 < 34) : ∃ h1, f_J4_append_cf468 h 129 (w c) = some (129, h1) ∧ LnS h0 b0 h1 (aC P c).1 (aC P c).2 := apc_ok S hc hn
theorem LnS.api (S : LnS h0 b0 h P.1 P.2) (D : DgC h) (hv : v < 100) (hn : P.2 + szN v ≤ 34) : ∃ h1, f_J4_append_bf812 h 129 (w v) = some (129, h1) ∧ LnS h0 b0 h1 (aN P v).1 (aN P v).2 := api_ok S D hv hn
theorem LnS.gd (S : LnS h0 b0 h l n) : gd h 129 1 = some () := by
  obtain ⟨b, L, -⟩ := S
  obtain ⟨x1, x2, x3, mb', cap', f', x4, -⟩ := L
  exact gd_of x4
theorem LnS.cnt (S : LnS h0 b0 h l n) : rdI h 129 1 3 = some (w n) := by
  obtain ⟨b, L, -⟩ := S
  obtain ⟨x1, x2, x3, mb', cap', f', x4, -⟩ := L
  exact rdI_of x4 rfl
theorem LnS.ob (S : LnS h0 b0 h l n) (O : ObC h0 so) (hb : b0 = 130 ∨ 141 ≤ b0) : ObC h so := by
  obtain ⟨b, L, F, -⟩ := S
  exact O.frm F (by omega)
theorem LnS.sg (S : LnS h0 b0 h l n) (H : Sg B h0 87 g) (hb : b0 = 130 ∨ 141 ≤ b0) : Sg B h 87 g := by
  obtain ⟨b, L, F, -⟩ := S
  exact H.frm F (fun i hi => by omega)
theorem LnS.dg (S : LnS h0 b0 h l n) (D : DgC h0) (hb : b0 = 130 ∨ 141 ≤ b0) : DgC h := by
  obtain ⟨b, L, F, B0, hh⟩ := S
  obtain ⟨fo, ft, d1, d2, d3⟩ := D
  exact ⟨fo, ft, (F.2 84 (by omega) (by omega)).trans d1, (F.2 85 (by omega) (by omega)).trans d2, d3⟩
theorem set0_ok (L : LnC h b l n) (hh : 140 < h.1) : ∃ h1, f_J4_setLength_d00df h 129 (0 : Int32) = some h1 ∧ LnS h b h1 l 0 := by
  obtain ⟨p1, b1, e1, L1, ⟨mb, cap, f, q4, q5, q6, q7, q8, q9, q10⟩, F1, B1⟩ := ens_ok L (k := 0) (by omega) hh
  have e1' : f_J5_ensureCapacityInternal_d00df h 129 (0 : Int32) = some p1 := e1
  have n34 := L.2.2.1
  have g0 : gd h 129 1 = some () := by
    obtain ⟨x1, x2, x3, mb', cap', f', x4, -⟩ := L
    exact gd_of x4
  have j3 : rdI p1 129 1 3 = some (w n) := rdI_of q4 rfl
  have z0 : (0 : Int32) ≤ w n := (w_le (a := 0) (by decide) (by omega)).mpr (Nat.zero_le _)
  have b129 : b1 ≠ 129 := by rcases L1.1 with z | z <;> omega
  by_cases c0 : n = 0
  · subst c0
    have w1 := wr_of (v := .int (0 : Int32)) (show kK ≤ 129 by decide) q4 (show 3 < 4 by decide)
    refine ⟨_, ?_, LnS.step (fr.refl _ _) (Or.inl rfl) hh (h1 := (p1.1, z_up p1.2 129 (.inr (1, [Value.ref b1, .int 0, .int mb, .int (w 0)].set 3 (.int (0 : Int32)))))) ⟨F1.1, fun x hx nx => (z_up_n _ _ (fun z => nx (Or.inl z))).trans (F1.2 x hx nx)⟩ (b1 := b1) ⟨L1.1, L1.2.1, by omega, mb, cap, f, z_ups _ _ _ _, (z_up_n _ _ b129).trans q5, q6, q8, q9, q10⟩ B1⟩
    unfold f_J4_setLength_d00df f_J5_setLength_d00df
    rw [if_pos (by decide)]
    simp only [g0, e1', j3, Option.bind_some]
    rw [if_pos z0, if_pos (by decide), w1]
    rfl
  · have nz : ¬ w n ≤ 0 := fun z => by
      have := (w_le (b := 0) (by omega) (by decide)).mp z
      omega
    have w1 := wr_of (v := .int (1 : Int32)) (show kK ≤ 129 by decide) q4 (show 2 < 4 by decide)
    have w2 := wr_of (h := (p1.1, z_up p1.2 129 (.inr (1, [Value.ref b1, .int 0, .int mb, .int (w n)].set 2 (.int (1 : Int32)))))) (v := .int (0 : Int32)) (show kK ≤ 129 by decide) (z_ups _ _ _ _) (show 3 < 4 by decide)
    refine ⟨_, ?_, LnS.step (fr.refl _ _) (Or.inl rfl) hh (h1 := (p1.1, z_up (z_up p1.2 129 (.inr (1, [Value.ref b1, .int 0, .int mb, .int (w n)].set 2 (.int (1 : Int32))))) 129 (.inr (1, ([Value.ref b1, .int 0, .int mb, .int (w n)].set 2 (.int (1 : Int32))).set 3 (.int (0 : Int32)))))) ⟨F1.1, fun x hx nx => (z_up_n _ _ (fun z => nx (Or.inl z))).trans ((z_up_n _ _ (fun z => nx (Or.inl z))).trans (F1.2 x hx nx))⟩ (b1 := b1) ⟨L1.1, L1.2.1, by omega, 1, cap, f, z_ups _ _ _ _, (z_up_n _ _ b129).trans ((z_up_n _ _ b129).trans q5), by omega, q8, q9, fun i hi => absurd hi (Nat.not_lt_zero i)⟩ B1⟩
    unfold f_J4_setLength_d00df f_J5_setLength_d00df
    rw [if_pos (by decide)]
    simp only [g0, e1', j3, Option.bind_some]
    rw [if_pos z0, if_neg nz, w1]
    simp only [Option.bind_some, w2]
/-- the class writes a note -/
theorem write_ok (L : LnC h b l n) (Ob : ObC h so) (S : Sg B h 87 g) (D : DgC h) (hk : k < gN g) : ∃ h1, f_X9_writeNote h 86 (w k) = some (Sum.inr (w (ltl g k (gN g) (lhd g k (l, 0))).2), h1) ∧ LnS h b h1 (ltl g k (gN g) (lhd g k (l, 0))).1 (ltl g k (gN g) (lhd g k (l, 0))).2 := by
  have hn := S.ok.n
  have hb := L.1
  have hp := (S.ok.note hk).2.1
  have ht := (S.ok.note hk).2.2.2.2.1
  have gu := gU_lt S.ok hk
  have s1 := szN_lo (v := k) (by omega)
  have s2 := szN_le (gP g k)
  have s3 := szN_le (gT g k)
  obtain ⟨x0, e0, S0⟩ := set0_ok L Ob.1
  have S0 : LnS h b x0 ((l, 0) : (Nat → Int32) × Nat).1 ((l, 0) : (Nat → Int32) × Nat).2 := S0
  obtain ⟨x1, e1, S1⟩ := S0.api (S0.dg D hb) (v := k) (by omega) (by show 0 + _ ≤ _; omega)
  have n1 : (aN (l, 0) k).2 = 1 := by show 0 + szN k = 1; omega
  obtain ⟨x2, e2, S2⟩ := S1.apc (c := 112) (by decide) (by omega)
  have n2 : (aC (aN (l, 0) k) 112).2 = 2 := by show (aN (l, 0) k).2 + 1 = 2; omega
  obtain ⟨x3, e3, S3⟩ := S2.api (S2.dg D hb) (v := gP g k) (by omega) (by omega)
  have n3 : (aN (aC (aN (l, 0) k) 112) (gP g k)).2 ≤ 4 := by show (aC (aN (l, 0) k) 112).2 + szN _ ≤ 4; omega
  obtain ⟨x4, e4, S4⟩ := S3.apc (c := 119) (by decide) (by omega)
  have n4 : (aC (aN (aC (aN (l, 0) k) 112) (gP g k)) 119).2 ≤ 5 := by show (aN (aC (aN (l, 0) k) 112) (gP g k)).2 + 1 ≤ 5; omega
  obtain ⟨x5, e5, S5⟩ := S4.api (S4.dg D hb) (v := gT g k) (by omega) (by omega)
  have n5 : (aN (aC (aN (aC (aN (l, 0) k) 112) (gP g k)) 119) (gT g k)).2 ≤ 7 := by show (aC (aN (aC (aN (l, 0) k) 112) (gP g k)) 119).2 + szN _ ≤ 7; omega
  obtain ⟨x6, e6, S6⟩ := S5.apc (wcn_lt (gH g k)) (by omega)
  have n6 : (lhd g k (l, 0)).2 ≤ 8 := by show (aN (aC (aN (aC (aN (l, 0) k) 112) (gP g k)) 119) (gT g k)).2 + 1 ≤ 8; omega
  have S6 : LnS h b x6 (lhd g k (l, 0)).1 (lhd g k (l, 0)).2 := S6
  rw [wcn_w] at e6
  obtain ⟨x7, e7, S7⟩ := sloop (fun fu j (q : PH) => f_X9_writeNote_L75 fu q 86 (w k) (w j)) id (gN g) (fun j q => LnS h b q (ltl g k j (lhd g k (l, 0))).1 (ltl g k j (lhd g k (l, 0))).2) (fun fu j q hj hI => by
    have Oq := hI.ob Ob hb
    have Hq := hI.sg S hb
    have le := ltl_le g k (lhd g k (l, 0)) j (by omega)
    by_cases c1 : (gU g k).testBit j = true
    · obtain ⟨y1, d1, I1⟩ := hI.apc (c := 62) (by decide) (by omega)
      have sj := szN_lo (v := j) (by omega)
      have n1 : (aC (ltl g k j (lhd g k (l, 0))) 62).2 ≤ 8 + 2 * j + 1 := by show (ltl g k j (lhd g k (l, 0))).2 + 1 ≤ _; omega
      obtain ⟨y2, d2, I2⟩ := I1.api (I1.dg D hb) (v := j) (by omega) (by omega)
      have d1' : f_J4_append_cf468 q 129 (62 : Int32) = some (129, y1) := d1
      refine ⟨y2, ?_, ?_⟩
      · show f_X9_writeNote_L75 (fu + 1) q 86 (w k) (w j) = f_X9_writeNote_L75 fu y2 86 (w k) (w (j + 1))
        simp only [f_X9_writeNote_L75, Oq.r0, Hq.i0, Option.bind_some, if_neg (is_lt hj (by omega)), Hq.r4, Hq.a4 hk, has_w (show gU g k < 2147483648 by omega) (show j < 31 by omega), c1, if_neg (show ¬ (true = false) by decide), Oq.r7, hI.gd, d1', I1.gd, d2, w_succ]
      · have : ltl g k (j + 1) (lhd g k (l, 0)) = aN (aC (ltl g k j (lhd g k (l, 0))) 62) j := if_pos c1
        rw [this]; exact I2
    · refine ⟨q, ?_, ?_⟩
      · show f_X9_writeNote_L75 (fu + 1) q 86 (w k) (w j) = f_X9_writeNote_L75 fu q 86 (w k) (w (j + 1))
        simp only [f_X9_writeNote_L75, Oq.r0, Hq.i0, Option.bind_some, if_neg (is_lt hj (by omega)), Hq.r4, Hq.a4 hk, has_w (show gU g k < 2147483648 by omega) (show j < 31 by omega), w_succ]
        rw [if_pos (by simpa using c1)]
      · have : ltl g k (j + 1) (lhd g k (l, 0)) = ltl g k j (lhd g k (l, 0)) := if_neg c1
        rw [this]; exact hI) (fun fu q hI => by
    have Oq := hI.ob Ob hb
    have Hq := hI.sg S hb
    show f_X9_writeNote_L75 (fu + 1) q 86 (w k) (w (gN g)) = some q
    simp only [f_X9_writeNote_L75, Oq.r0, Hq.i0, Option.bind_some, if_pos is_ge]) 12 0 x6 (Nat.zero_le _) (by omega) S6
  have e7' : f_X9_writeNote_L75 12 x6 86 (w k) (0 : Int32) = some x7 := e7
  refine ⟨x7, ?_, S7⟩
  have nn := needNote1 Ob S ((isN_iff (g := g) (by omega)).mpr ⟨k, hk, rfl⟩)
  have O0 := S0.ob Ob hb
  have O2 := S2.ob Ob hb
  have O3 := S3.ob Ob hb
  have O4 := S4.ob Ob hb
  have O5 := S5.ob Ob hb
  have O7 := S7.ob Ob hb
  have H2 := S2.sg S hb
  have H4 := S4.sg S hb
  have H5 := S5.sg S hb
  have e2' : f_J4_append_cf468 x1 129 (112 : Int32) = some (129, x2) := e2
  have e4' : f_J4_append_cf468 x3 129 (119 : Int32) = some (129, x4) := e4
  have g0 := (LnS.of L Ob.1).gd
  unfold f_X9_writeNote
  simp only [Ob.gd, nn, Option.bind_some, Sum.elim_inr, Ob.r7, g0, e0, O0.r7, S0.gd, e1, S1.gd, e2', O2.r0, H2.r1, H2.a1 hk, S2.gd, e3, O3.r7, S3.gd, e4', O4.r0, H4.r2, H4.a2 hk, S4.gd, e5, O5.r0, H5.r3, H5.a3 hk, S5.gd, e6, e7', O7.r7, S7.gd]
  unfold f_J4_length_8abf5 f_J5_length_8abf5
  simp only [S7.gd, S7.cnt, Option.bind_some]
end LINE3
