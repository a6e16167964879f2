/-! THE LINE: the class's StringBuilder -/
section LINE
variable {B : Nat} {h h0 h1 h2 : PH} {b b0 n c v i : Nat} {l : Nat → Int32}
theorem by_fit : ∀ c, c < 128 → fits .byte (.int (w c)) = true := by decide +kernel
theorem by_nar : ∀ c, c < 128 → vp_nar .byte (zi2b (w c)) = w c := by decide +kernel
theorem by_nar2 : ∀ c, c < 128 → vp_nar .byte (w c) = w c := by decide +kernel
theorem by_zn : ∀ c, c < 128 → zn .char (zi2c (w c &&& 255)) = some (w c) := by decide +kernel
theorem by_zn2 : ∀ c, c < 128 → zn .char (w c) = some (w c) := by decide +kernel
theorem by_enc : ∀ c, c < 128 → f_J1_canEncode_fc78d (w c) = true := by decide +kernel
theorem by_z2c : ∀ c, c < 128 → zi2c (w c) = w c := by decide +kernel
theorem by_narc : ∀ c, c < 128 → vp_nar .char (w c) = w c := by decide +kernel
/-- the line behind some appends, seen from h0 -/
def LnS (h0 : PH) (b0 : Nat) (h : PH) (l : Nat → Int32) (n : Nat) : Prop := ∃ b, LnC h b l n ∧ fr (fun x => x = 129 ∨ x = b0) h0 h ∧ (b = b0 ∨ h0.1 ≤ b) ∧ 140 < h0.1
theorem LnS.of (L : LnC h b l n) (hh : 140 < h.1) : LnS h b h l n := ⟨b, L, fr.refl _ _, Or.inl rfl, hh⟩
/-- one step more -/
theorem LnS.step {l' : Nat → Int32} {n' : Nat} (F0 : fr (fun x => x = 129 ∨ x = b0) h0 h) (B0 : b = b0 ∨ h0.1 ≤ b) (hh : 140 < h0.1) (F : fr (fun x => x = 129 ∨ x = b) h h1) {b1 : Nat} (L1 : LnC h1 b1 l' n') (hb : b1 = b ∨ h.1 ≤ b1) : LnS h0 b0 h1 l' n' := by
  have l0 := F0.1
  refine ⟨b1, L1, ⟨Nat.le_trans l0 F.1, fun x hx nx => ?_⟩, ?_, hh⟩
  · have n1 : ¬ x = 129 := fun z => nx (Or.inl z)
    have n2 : ¬ x = b0 := fun z => nx (Or.inr z)
    exact (F.2 x (by omega) (fun z => by rcases z with z | z <;> rcases B0 with y | y <;> omega)).trans (F0.2 x hx nx)
  · rcases hb with z | z
    · rcases B0 with y | y
      · exact Or.inl (z.trans y)
      · exact Or.inr (by omega)
    · exact Or.inr (by omega)
theorem sh0 (x : Nat) : zshr (w x) (0 : Int32) = w x := by
  unfold zshr
  show w x >>> (0 &&& 31 : Int32) = w x
  rw [show (0 &&& 31 : Int32) = 0 from by decide]
  exact Int32.shiftRight_zero
theorem shl0 (x : Nat) : zshl (w x) (0 : Int32) = w x := by
  unfold zshl
  show w x <<< (0 &&& 31 : Int32) = w x
  rw [show (0 &&& 31 : Int32) = 0 from by decide]
  exact Int32.shiftLeft_zero
/-- room for k more -/
theorem ens_ok (L : LnC h b l n) {k : Nat} (hk : k ≤ 34) (hh : 140 < h.1) : ∃ h1 b1, f_J5_ensureCapacityInternal_d00df h 129 (w k) = some h1 ∧ LnC h1 b1 l n ∧ (∃ mb cap f, h1.2 129 = .inr (1, [.ref b1, .int 0, .int mb, .int (w n)]) ∧ h1.2 b1 = .inl (.byte, cap, .inl f) ∧ n ≤ cap ∧ k ≤ cap ∧ (cap = 16 ∨ cap = 34) ∧ (∀ i, i < cap → ∃ z, z < 128 ∧ f i = w z) ∧ ∀ i, i < n → f i = l i) ∧ fr (fun x => x = 129 ∨ x = b) h h1 ∧ (b1 = b ∨ h.1 ≤ b1) := by
  have L' := L
  obtain ⟨p1, p2, p3, mb, cap, f, p4, p5, p6, p7, p8, p9⟩ := L'
  have hb : 86 ≤ b := by omega
  have r0 : rdR h 129 1 0 = some b := rdR_of p4 rfl
  have i1 : rdI h 129 1 1 = some 0 := rdI_of p4 rfl
  have al : alA .byte h b = some (w cap) := alA_of p5
  have g1 : gd h 129 1 = some () := gd_of p4
  by_cases c1 : k ≤ cap
  · refine ⟨h, b, ?_, L, ⟨mb, cap, f, p4, p5, p6, c1, p7, p8, p9⟩, fr.refl _ _, Or.inl rfl⟩
    have le : w k - w cap ≤ 0 := by
      have e : ∀ a, a < 35 → ∀ b, b < 35 → a ≤ b → w a - w b ≤ 0 := by decide +kernel
      exact e k (by omega) cap (by omega) c1
    unfold f_J5_ensureCapacityInternal_d00df
    simp only [r0, al, i1, Option.bind_some, sh0, if_pos le]
  · have c16 : cap = 16 := by omega
    subst c16
    have nle : ¬ w k - w 16 ≤ 0 := by
      have e : ∀ a, a < 35 → 16 < a → ¬ w a - w 16 ≤ 0 := by decide +kernel
      exact e k (by omega) (by omega)
    have nc : f_J5_newCapacity_0f7a4 h 129 (w k) = some (w 34) := by
      have e : ∀ a, a < 35 → 16 < a → f_J8_newLength_cabcc (w 16) (w a - w 16) (w 16 + w 2) = some (w 34) := by decide +kernel
      have s2 : zshl (2 : Int32) (0 : Int32) = w 2 := by decide
      unfold f_J5_newCapacity_0f7a4
      simp only [r0, al, i1, Option.bind_some, shl0, s2, e k (by omega) (by omega), sh0]
      rw [if_pos (by decide)]
    have hk86 : kK ≤ h.1 := by show 86 ≤ h.1; omega
    have nw := nwI_of (ty := .byte) (h := h) (k := 34) (lim := 64) (by decide) (by decide)
    have q5 : (h.1 + 1, z_up h.2 h.1 (.inl (.byte, 34, .inl fun _ => 0))).2 b = .inl (.byte, 16, .inl f) := (z_up_n _ _ (by omega)).trans p5
    have q6 : (h.1 + 1, z_up h.2 h.1 (.inl (.byte, 34, .inl fun _ => 0))).2 h.1 = .inl (.byte, 34, .inl fun _ => 0) := z_up_s _ _ _
    have al2 := alA_of q5
    have cp := cpI_of (k := 16) (show kK ≤ b by show 86 ≤ b; omega) hk86 q5 q6 (by decide) (by decide) (by decide) (fun i hi => by
      obtain ⟨z, z1, z2⟩ := p8 i hi
      rw [z2]; exact by_fit z z1)
    have co : f_J7_copyOf_9075b h b (w 34) = some (h.1, (h.1 + 1, z_up (z_up h.2 h.1 (.inl (.byte, 34, .inl fun _ => 0))) h.1 (.inl (.byte, 34, .inl (va_cpy f (fun _ => 0) 0 0 16))))) := by
      have m16 : f_J9_min_7cf53 (w 16) (w 34) = w 16 := by decide
      unfold f_J7_copyOf_9075b
      simp only [al, Option.bind_some]
      rw [if_pos (by decide), nw]
      simp only [Option.bind_some, al2, m16, cp]
    have q4 : (h.1 + 1, z_up (z_up h.2 h.1 (.inl (.byte, 34, .inl fun _ => 0))) h.1 (.inl (.byte, 34, .inl (va_cpy f (fun _ => 0) 0 0 16)))).2 129 = .inr (1, [.ref b, .int 0, .int mb, .int (w n)]) := (z_up_n _ _ (by omega)).trans ((z_up_n _ _ (by omega)).trans p4)
    have wr1 := wr_of (v := .ref h.1) (show kK ≤ 129 by decide) q4 (show 0 < 4 by decide)
    have s1 : ((h.1 + 1, z_up (z_up (z_up h.2 h.1 (.inl (.byte, 34, .inl fun _ => 0))) h.1 (.inl (.byte, 34, .inl (va_cpy f (fun _ => 0) 0 0 16)))) 129 (.inr (1, [.ref h.1, .int 0, .int mb, .int (w n)]))) : PH).2 129 = .inr (1, [.ref h.1, .int 0, .int mb, .int (w n)]) := z_ups _ _ _ _
    have s2 : ((h.1 + 1, z_up (z_up (z_up h.2 h.1 (.inl (.byte, 34, .inl fun _ => 0))) h.1 (.inl (.byte, 34, .inl (va_cpy f (fun _ => 0) 0 0 16)))) 129 (.inr (1, [.ref h.1, .int 0, .int mb, .int (w n)]))) : PH).2 h.1 = .inl (.byte, 34, .inl (va_cpy f (fun _ => 0) 0 0 16)) := (z_up_n _ _ (by omega)).trans (z_up_s _ _ _)
    refine ⟨(h.1 + 1, z_up (z_up (z_up h.2 h.1 (.inl (.byte, 34, .inl fun _ => 0))) h.1 (.inl (.byte, 34, .inl (va_cpy f (fun _ => 0) 0 0 16)))) 129 (.inr (1, [.ref h.1, .int 0, .int mb, .int (w n)]))), h.1, ?_, ⟨Or.inr ?_, Nat.lt_succ_self _, p3, mb, 34, va_cpy f (fun _ => 0) 0 0 16, s1, s2, by omega, Or.inr rfl, ?_, ?_⟩, ⟨mb, 34, va_cpy f (fun _ => 0) 0 0 16, s1, s2, by omega, by omega, Or.inr rfl, ?_, ?_⟩, ⟨Nat.le_succ _, fun x hx nx => ?_⟩, Or.inr (Nat.le_refl _)⟩
    · unfold f_J5_ensureCapacityInternal_d00df
      simp only [r0, al, i1, Option.bind_some, sh0, if_neg nle, g1, nc, shl0, co, wr1]
      rfl
    · show 141 ≤ h.1; omega
    · intro i hi
      unfold va_cpy
      by_cases z : 0 ≤ i ∧ i < 0 + 16
      · rw [if_pos z]
        have := p8 i (by omega)
        rw [show 0 + (i - 0) = i by omega]
        exact this
      · rw [if_neg z]; exact ⟨0, by decide, rfl⟩
    · intro i hi
      rw [va_cpy0 (by omega)]
      exact p9 i hi
    · intro i hi
      unfold va_cpy
      by_cases z : 0 ≤ i ∧ i < 0 + 16
      · rw [if_pos z]
        have := p8 i (by omega)
        rw [show 0 + (i - 0) = i by omega]
        exact this
      · rw [if_neg z]; exact ⟨0, by decide, rfl⟩
    · intro i hi
      rw [va_cpy0 (by omega)]
      exact p9 i hi
    · exact (z_up_n _ _ (fun z => nx (Or.inl z))).trans ((z_up_n _ _ (by omega)).trans (z_up_n _ _ (by omega)))
end LINE
