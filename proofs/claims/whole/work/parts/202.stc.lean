/-! A STATE ON THE HEAP. A state's numbers: row j of field j (a scalar is a row of one) -/
section STC
abbrev CS : Type := Nat → Nat → Int32
def setR (s : CS) (j : Nat) (f : Nat → Int32) : CS := fun i => if i = j then f else s i
def stF (a : Nat) (s : CS) : List Value := [.int (s 0 0), .ref (a + 1), .ref (a + 2), .ref (a + 3), .ref (a + 4), .ref (a + 5), .ref (a + 6), .ref (a + 7), .int (s 8 0), .ref (a + 8), .ref (a + 9), .ref (a + 10), .int (s 12 0), .int (s 13 0), .int (s 14 0), .int (s 15 0), .int (s 16 0)]
def chs (f : Nat → Int32) : Prop := ∀ k, k < 10 → fits .char (.int (f k)) = true
def StC (h : PH) (a : Nat) (s : CS) : Prop := kK ≤ a ∧ a + 10 < h.1 ∧ h.2 a = .inr (9, stF a s) ∧ h.2 (a + 1) = .inl (.int, 10, .inl (s 1)) ∧ h.2 (a + 2) = .inl (.int, 10, .inl (s 2)) ∧ h.2 (a + 3) = .inl (.char, 10, .inl (s 3)) ∧ h.2 (a + 4) = .inl (.int, 10, .inl (s 4)) ∧ h.2 (a + 5) = .inl (.int, 12, .inl (s 5)) ∧ h.2 (a + 6) = .inl (.int, 12, .inl (s 6)) ∧ h.2 (a + 7) = .inl (.int, 12, .inl (s 7)) ∧ h.2 (a + 8) = .inl (.int, 5, .inl (s 9)) ∧ h.2 (a + 9) = .inl (.int, 5, .inl (s 10)) ∧ h.2 (a + 10) = .inl (.int, 5, .inl (s 11)) ∧ chs (s 3) ∧ (s 12 0 = 0 ∨ s 12 0 = 1)
variable {h h1 : PH} {a b : Nat} {s t : CS}
theorem StC.kK (H : StC h a s) : kK ≤ a := H.1
theorem StC.lt (H : StC h a s) : a + 10 < h.1 := H.2.1
theorem StC.ob (H : StC h a s) : h.2 a = .inr (9, stF a s) := H.2.2.1
theorem StC.c1 (H : StC h a s) : h.2 (a + 1) = .inl (.int, 10, .inl (s 1)) := H.2.2.2.1
theorem StC.c2 (H : StC h a s) : h.2 (a + 2) = .inl (.int, 10, .inl (s 2)) := H.2.2.2.2.1
theorem StC.c3 (H : StC h a s) : h.2 (a + 3) = .inl (.char, 10, .inl (s 3)) := H.2.2.2.2.2.1
theorem StC.c4 (H : StC h a s) : h.2 (a + 4) = .inl (.int, 10, .inl (s 4)) := H.2.2.2.2.2.2.1
theorem StC.c5 (H : StC h a s) : h.2 (a + 5) = .inl (.int, 12, .inl (s 5)) := H.2.2.2.2.2.2.2.1
theorem StC.c6 (H : StC h a s) : h.2 (a + 6) = .inl (.int, 12, .inl (s 6)) := H.2.2.2.2.2.2.2.2.1
theorem StC.c7 (H : StC h a s) : h.2 (a + 7) = .inl (.int, 12, .inl (s 7)) := H.2.2.2.2.2.2.2.2.2.1
theorem StC.c8 (H : StC h a s) : h.2 (a + 8) = .inl (.int, 5, .inl (s 9)) := H.2.2.2.2.2.2.2.2.2.2.1
theorem StC.c9 (H : StC h a s) : h.2 (a + 9) = .inl (.int, 5, .inl (s 10)) := H.2.2.2.2.2.2.2.2.2.2.2.1
theorem StC.c10 (H : StC h a s) : h.2 (a + 10) = .inl (.int, 5, .inl (s 11)) := H.2.2.2.2.2.2.2.2.2.2.2.2.1
theorem StC.ch (H : StC h a s) : chs (s 3) := H.2.2.2.2.2.2.2.2.2.2.2.2.2.1
theorem StC.li (H : StC h a s) : s 12 0 = 0 ∨ s 12 0 = 1 := H.2.2.2.2.2.2.2.2.2.2.2.2.2.2
theorem StC.gd (H : StC h a s) : gd h a 9 = some () := gd_of H.ob
theorem StC.i0 (H : StC h a s) : rdI h a 9 0 = some (s 0 0) := rdI_of H.ob rfl
theorem StC.i8 (H : StC h a s) : rdI h a 9 8 = some (s 8 0) := rdI_of H.ob rfl
theorem StC.i12 (H : StC h a s) : rdI h a 9 12 = some (s 12 0) := rdI_of H.ob rfl
theorem StC.i13 (H : StC h a s) : rdI h a 9 13 = some (s 13 0) := rdI_of H.ob rfl
theorem StC.i14 (H : StC h a s) : rdI h a 9 14 = some (s 14 0) := rdI_of H.ob rfl
theorem StC.i15 (H : StC h a s) : rdI h a 9 15 = some (s 15 0) := rdI_of H.ob rfl
theorem StC.i16 (H : StC h a s) : rdI h a 9 16 = some (s 16 0) := rdI_of H.ob rfl
theorem StC.r1 (H : StC h a s) : rdR h a 9 1 = some (a + 1) := rdR_of H.ob rfl
theorem StC.a1 (H : StC h a s) {k : Nat} (hk : k < 10) : alI .int h (a + 1) (w k) = some (s 1 k) := alI_of H.c1 (by decide) hk
theorem StC.r2 (H : StC h a s) : rdR h a 9 2 = some (a + 2) := rdR_of H.ob rfl
theorem StC.a2 (H : StC h a s) {k : Nat} (hk : k < 10) : alI .int h (a + 2) (w k) = some (s 2 k) := alI_of H.c2 (by decide) hk
theorem StC.r3 (H : StC h a s) : rdR h a 9 3 = some (a + 3) := rdR_of H.ob rfl
theorem StC.a3 (H : StC h a s) {k : Nat} (hk : k < 10) : alI .char h (a + 3) (w k) = some (s 3 k) := alI_of H.c3 (by decide) hk
theorem StC.r4 (H : StC h a s) : rdR h a 9 4 = some (a + 4) := rdR_of H.ob rfl
theorem StC.a4 (H : StC h a s) {k : Nat} (hk : k < 10) : alI .int h (a + 4) (w k) = some (s 4 k) := alI_of H.c4 (by decide) hk
theorem StC.r5 (H : StC h a s) : rdR h a 9 5 = some (a + 5) := rdR_of H.ob rfl
theorem StC.a5 (H : StC h a s) {k : Nat} (hk : k < 12) : alI .int h (a + 5) (w k) = some (s 5 k) := alI_of H.c5 (by decide) hk
theorem StC.r6 (H : StC h a s) : rdR h a 9 6 = some (a + 6) := rdR_of H.ob rfl
theorem StC.a6 (H : StC h a s) {k : Nat} (hk : k < 12) : alI .int h (a + 6) (w k) = some (s 6 k) := alI_of H.c6 (by decide) hk
theorem StC.r7 (H : StC h a s) : rdR h a 9 7 = some (a + 7) := rdR_of H.ob rfl
theorem StC.a7 (H : StC h a s) {k : Nat} (hk : k < 12) : alI .int h (a + 7) (w k) = some (s 7 k) := alI_of H.c7 (by decide) hk
theorem StC.r9 (H : StC h a s) : rdR h a 9 9 = some (a + 8) := rdR_of H.ob rfl
theorem StC.a9 (H : StC h a s) {k : Nat} (hk : k < 5) : alI .int h (a + 8) (w k) = some (s 9 k) := alI_of H.c8 (by decide) hk
theorem StC.r10 (H : StC h a s) : rdR h a 9 10 = some (a + 9) := rdR_of H.ob rfl
theorem StC.a10 (H : StC h a s) {k : Nat} (hk : k < 5) : alI .int h (a + 9) (w k) = some (s 10 k) := alI_of H.c9 (by decide) hk
theorem StC.r11 (H : StC h a s) : rdR h a 9 11 = some (a + 10) := rdR_of H.ob rfl
theorem StC.a11 (H : StC h a s) {k : Nat} (hk : k < 5) : alI .int h (a + 10) (w k) = some (s 11 k) := alI_of H.c10 (by decide) hk
theorem StC.eqs (H : StC h a s) (hz : h1.1 ≥ h.1) (hc : ∀ i, i ≤ 10 → h1.2 (a + i) = h.2 (a + i)) : StC h1 a s := ⟨H.kK, Nat.lt_of_lt_of_le H.lt hz, (hc 0 (by decide)).trans H.ob, (hc 1 (by decide)).trans H.c1, (hc 2 (by decide)).trans H.c2, (hc 3 (by decide)).trans H.c3, (hc 4 (by decide)).trans H.c4, (hc 5 (by decide)).trans H.c5, (hc 6 (by decide)).trans H.c6, (hc 7 (by decide)).trans H.c7, (hc 8 (by decide)).trans H.c8, (hc 9 (by decide)).trans H.c9, (hc 10 (by decide)).trans H.c10, H.ch, H.li⟩
theorem StC.frm {W : Nat → Prop} (H : StC h a s) (F : fr W h h1) (hw : ∀ i, i ≤ 10 → ¬ W (a + i)) : StC h1 a s := H.eqs F.1 (fun i hi => F.2 _ (by have := H.lt; omega) (hw i hi))
theorem StC.up (H : StC h a s) {q : Nat} {c : PC} (hq : ∀ i, i ≤ 10 → a + i ≠ q) : StC (h.1, z_up h.2 q c) a s := H.eqs (Nat.le_refl _) (fun i hi => z_up_n _ _ (hq i hi))
def stW (a : Nat) : Nat → Prop := fun c => a ≤ c ∧ c ≤ a + 10
theorem StC.w0 (H : StC h a s) {x : Int32} : ∃ h1, wr h a 9 0 (.int x) = some h1 ∧ StC h1 a (setR s 0 fun _ => x) ∧ fr (stW a) h h1 ∧ h1 = (h.1, z_up h.2 a (.inr (9, stF a (setR s 0 fun _ => x)))) := ⟨_, wr_of (fs := stF a s) H.kK H.ob (show 0 < 17 by decide), ⟨H.kK, H.lt, z_up_s _ _ _, (z_up_n _ _ (by omega)).trans H.c1, (z_up_n _ _ (by omega)).trans H.c2, (z_up_n _ _ (by omega)).trans H.c3, (z_up_n _ _ (by omega)).trans H.c4, (z_up_n _ _ (by omega)).trans H.c5, (z_up_n _ _ (by omega)).trans H.c6, (z_up_n _ _ (by omega)).trans H.c7, (z_up_n _ _ (by omega)).trans H.c8, (z_up_n _ _ (by omega)).trans H.c9, (z_up_n _ _ (by omega)).trans H.c10, H.ch, H.li⟩, fr.up ⟨Nat.le_refl _, Nat.le_add_right _ _⟩, rfl⟩
theorem StC.w8 (H : StC h a s) {x : Int32} : ∃ h1, wr h a 9 8 (.int x) = some h1 ∧ StC h1 a (setR s 8 fun _ => x) ∧ fr (stW a) h h1 ∧ h1 = (h.1, z_up h.2 a (.inr (9, stF a (setR s 8 fun _ => x)))) := ⟨_, wr_of (fs := stF a s) H.kK H.ob (show 8 < 17 by decide), ⟨H.kK, H.lt, z_up_s _ _ _, (z_up_n _ _ (by omega)).trans H.c1, (z_up_n _ _ (by omega)).trans H.c2, (z_up_n _ _ (by omega)).trans H.c3, (z_up_n _ _ (by omega)).trans H.c4, (z_up_n _ _ (by omega)).trans H.c5, (z_up_n _ _ (by omega)).trans H.c6, (z_up_n _ _ (by omega)).trans H.c7, (z_up_n _ _ (by omega)).trans H.c8, (z_up_n _ _ (by omega)).trans H.c9, (z_up_n _ _ (by omega)).trans H.c10, H.ch, H.li⟩, fr.up ⟨Nat.le_refl _, Nat.le_add_right _ _⟩, rfl⟩
theorem StC.w12 (H : StC h a s) {x : Int32} (hx : x = 0 ∨ x = 1) : ∃ h1, wr h a 9 12 (.int x) = some h1 ∧ StC h1 a (setR s 12 fun _ => x) ∧ fr (stW a) h h1 ∧ h1 = (h.1, z_up h.2 a (.inr (9, stF a (setR s 12 fun _ => x)))) := ⟨_, wr_of (fs := stF a s) H.kK H.ob (show 12 < 17 by decide), ⟨H.kK, H.lt, z_up_s _ _ _, (z_up_n _ _ (by omega)).trans H.c1, (z_up_n _ _ (by omega)).trans H.c2, (z_up_n _ _ (by omega)).trans H.c3, (z_up_n _ _ (by omega)).trans H.c4, (z_up_n _ _ (by omega)).trans H.c5, (z_up_n _ _ (by omega)).trans H.c6, (z_up_n _ _ (by omega)).trans H.c7, (z_up_n _ _ (by omega)).trans H.c8, (z_up_n _ _ (by omega)).trans H.c9, (z_up_n _ _ (by omega)).trans H.c10, H.ch, hx⟩, fr.up ⟨Nat.le_refl _, Nat.le_add_right _ _⟩, rfl⟩
theorem StC.w13 (H : StC h a s) {x : Int32} : ∃ h1, wr h a 9 13 (.int x) = some h1 ∧ StC h1 a (setR s 13 fun _ => x) ∧ fr (stW a) h h1 ∧ h1 = (h.1, z_up h.2 a (.inr (9, stF a (setR s 13 fun _ => x)))) := ⟨_, wr_of (fs := stF a s) H.kK H.ob (show 13 < 17 by decide), ⟨H.kK, H.lt, z_up_s _ _ _, (z_up_n _ _ (by omega)).trans H.c1, (z_up_n _ _ (by omega)).trans H.c2, (z_up_n _ _ (by omega)).trans H.c3, (z_up_n _ _ (by omega)).trans H.c4, (z_up_n _ _ (by omega)).trans H.c5, (z_up_n _ _ (by omega)).trans H.c6, (z_up_n _ _ (by omega)).trans H.c7, (z_up_n _ _ (by omega)).trans H.c8, (z_up_n _ _ (by omega)).trans H.c9, (z_up_n _ _ (by omega)).trans H.c10, H.ch, H.li⟩, fr.up ⟨Nat.le_refl _, Nat.le_add_right _ _⟩, rfl⟩
theorem StC.w14 (H : StC h a s) {x : Int32} : ∃ h1, wr h a 9 14 (.int x) = some h1 ∧ StC h1 a (setR s 14 fun _ => x) ∧ fr (stW a) h h1 ∧ h1 = (h.1, z_up h.2 a (.inr (9, stF a (setR s 14 fun _ => x)))) := ⟨_, wr_of (fs := stF a s) H.kK H.ob (show 14 < 17 by decide), ⟨H.kK, H.lt, z_up_s _ _ _, (z_up_n _ _ (by omega)).trans H.c1, (z_up_n _ _ (by omega)).trans H.c2, (z_up_n _ _ (by omega)).trans H.c3, (z_up_n _ _ (by omega)).trans H.c4, (z_up_n _ _ (by omega)).trans H.c5, (z_up_n _ _ (by omega)).trans H.c6, (z_up_n _ _ (by omega)).trans H.c7, (z_up_n _ _ (by omega)).trans H.c8, (z_up_n _ _ (by omega)).trans H.c9, (z_up_n _ _ (by omega)).trans H.c10, H.ch, H.li⟩, fr.up ⟨Nat.le_refl _, Nat.le_add_right _ _⟩, rfl⟩
theorem StC.w15 (H : StC h a s) {x : Int32} : ∃ h1, wr h a 9 15 (.int x) = some h1 ∧ StC h1 a (setR s 15 fun _ => x) ∧ fr (stW a) h h1 ∧ h1 = (h.1, z_up h.2 a (.inr (9, stF a (setR s 15 fun _ => x)))) := ⟨_, wr_of (fs := stF a s) H.kK H.ob (show 15 < 17 by decide), ⟨H.kK, H.lt, z_up_s _ _ _, (z_up_n _ _ (by omega)).trans H.c1, (z_up_n _ _ (by omega)).trans H.c2, (z_up_n _ _ (by omega)).trans H.c3, (z_up_n _ _ (by omega)).trans H.c4, (z_up_n _ _ (by omega)).trans H.c5, (z_up_n _ _ (by omega)).trans H.c6, (z_up_n _ _ (by omega)).trans H.c7, (z_up_n _ _ (by omega)).trans H.c8, (z_up_n _ _ (by omega)).trans H.c9, (z_up_n _ _ (by omega)).trans H.c10, H.ch, H.li⟩, fr.up ⟨Nat.le_refl _, Nat.le_add_right _ _⟩, rfl⟩
theorem StC.w16 (H : StC h a s) {x : Int32} : ∃ h1, wr h a 9 16 (.int x) = some h1 ∧ StC h1 a (setR s 16 fun _ => x) ∧ fr (stW a) h h1 ∧ h1 = (h.1, z_up h.2 a (.inr (9, stF a (setR s 16 fun _ => x)))) := ⟨_, wr_of (fs := stF a s) H.kK H.ob (show 16 < 17 by decide), ⟨H.kK, H.lt, z_up_s _ _ _, (z_up_n _ _ (by omega)).trans H.c1, (z_up_n _ _ (by omega)).trans H.c2, (z_up_n _ _ (by omega)).trans H.c3, (z_up_n _ _ (by omega)).trans H.c4, (z_up_n _ _ (by omega)).trans H.c5, (z_up_n _ _ (by omega)).trans H.c6, (z_up_n _ _ (by omega)).trans H.c7, (z_up_n _ _ (by omega)).trans H.c8, (z_up_n _ _ (by omega)).trans H.c9, (z_up_n _ _ (by omega)).trans H.c10, H.ch, H.li⟩, fr.up ⟨Nat.le_refl _, Nat.le_add_right _ _⟩, rfl⟩
theorem StC.row1 (H : StC h a s) (f : Nat → Int32) : StC (h.1, z_up h.2 (a + 1) (.inl (.int, 10, .inl f))) a (setR s 1 f) := ⟨H.kK, H.lt, (z_up_n _ _ (by omega)).trans H.ob, z_up_s _ _ _, (z_up_n _ _ (by omega)).trans H.c2, (z_up_n _ _ (by omega)).trans H.c3, (z_up_n _ _ (by omega)).trans H.c4, (z_up_n _ _ (by omega)).trans H.c5, (z_up_n _ _ (by omega)).trans H.c6, (z_up_n _ _ (by omega)).trans H.c7, (z_up_n _ _ (by omega)).trans H.c8, (z_up_n _ _ (by omega)).trans H.c9, (z_up_n _ _ (by omega)).trans H.c10, H.ch, H.li⟩
theorem StC.s1 (H : StC h a s) {k : Nat} {x : Int32} (hk : k < 10) : ∃ h1, asI .int h (a + 1) (w k) x = some h1 ∧ StC h1 a (setR s 1 (upd (s 1) k x)) ∧ fr (stW a) h h1 := ⟨_, asI_of (Nat.le_trans H.kK (Nat.le_add_right _ _)) H.c1 (by decide) hk, H.row1 _, fr.up ⟨by omega, by omega⟩⟩
theorem StC.cp1 (H : StC h a s) (HB : StC h b t) (hd : ∀ i, i ≤ 10 → ∀ k, k ≤ 10 → b + i ≠ a + k) : ∃ h1, cpI .int h (b + 1) (0 : Int32) (a + 1) (0 : Int32) (10 : Int32) = some h1 ∧ StC h1 a (setR s 1 (va_cpy (t 1) (s 1) 0 0 10)) ∧ StC h1 b t ∧ fr (stW a) h h1 := ⟨_, cpI_of (k := 10) (Nat.le_trans HB.kK (Nat.le_add_right _ _)) (Nat.le_trans H.kK (Nat.le_add_right _ _)) HB.c1 H.c1 (by decide) (by decide) (by decide) (fun _ _ => rfl), H.row1 _, HB.up (fun i hi => hd i hi 1 (by decide)), fr.up ⟨by omega, by omega⟩⟩
theorem StC.row2 (H : StC h a s) (f : Nat → Int32) : StC (h.1, z_up h.2 (a + 2) (.inl (.int, 10, .inl f))) a (setR s 2 f) := ⟨H.kK, H.lt, (z_up_n _ _ (by omega)).trans H.ob, (z_up_n _ _ (by omega)).trans H.c1, z_up_s _ _ _, (z_up_n _ _ (by omega)).trans H.c3, (z_up_n _ _ (by omega)).trans H.c4, (z_up_n _ _ (by omega)).trans H.c5, (z_up_n _ _ (by omega)).trans H.c6, (z_up_n _ _ (by omega)).trans H.c7, (z_up_n _ _ (by omega)).trans H.c8, (z_up_n _ _ (by omega)).trans H.c9, (z_up_n _ _ (by omega)).trans H.c10, H.ch, H.li⟩
theorem StC.s2 (H : StC h a s) {k : Nat} {x : Int32} (hk : k < 10) : ∃ h1, asI .int h (a + 2) (w k) x = some h1 ∧ StC h1 a (setR s 2 (upd (s 2) k x)) ∧ fr (stW a) h h1 := ⟨_, asI_of (Nat.le_trans H.kK (Nat.le_add_right _ _)) H.c2 (by decide) hk, H.row2 _, fr.up ⟨by omega, by omega⟩⟩
theorem StC.cp2 (H : StC h a s) (HB : StC h b t) (hd : ∀ i, i ≤ 10 → ∀ k, k ≤ 10 → b + i ≠ a + k) : ∃ h1, cpI .int h (b + 2) (0 : Int32) (a + 2) (0 : Int32) (10 : Int32) = some h1 ∧ StC h1 a (setR s 2 (va_cpy (t 2) (s 2) 0 0 10)) ∧ StC h1 b t ∧ fr (stW a) h h1 := ⟨_, cpI_of (k := 10) (Nat.le_trans HB.kK (Nat.le_add_right _ _)) (Nat.le_trans H.kK (Nat.le_add_right _ _)) HB.c2 H.c2 (by decide) (by decide) (by decide) (fun _ _ => rfl), H.row2 _, HB.up (fun i hi => hd i hi 2 (by decide)), fr.up ⟨by omega, by omega⟩⟩
theorem StC.row3 (H : StC h a s) (f : Nat → Int32) (hch : chs f) : StC (h.1, z_up h.2 (a + 3) (.inl (.char, 10, .inl f))) a (setR s 3 f) := ⟨H.kK, H.lt, (z_up_n _ _ (by omega)).trans H.ob, (z_up_n _ _ (by omega)).trans H.c1, (z_up_n _ _ (by omega)).trans H.c2, z_up_s _ _ _, (z_up_n _ _ (by omega)).trans H.c4, (z_up_n _ _ (by omega)).trans H.c5, (z_up_n _ _ (by omega)).trans H.c6, (z_up_n _ _ (by omega)).trans H.c7, (z_up_n _ _ (by omega)).trans H.c8, (z_up_n _ _ (by omega)).trans H.c9, (z_up_n _ _ (by omega)).trans H.c10, hch, H.li⟩
theorem StC.s3 (H : StC h a s) {k : Nat} {x : Int32} (hk : k < 10) (hx : fits .char (.int x) = true) (hn : vp_nar .char x = x) : ∃ h1, asI .char h (a + 3) (w k) x = some h1 ∧ StC h1 a (setR s 3 (upd (s 3) k x)) ∧ fr (stW a) h h1 := ⟨_, asI_of (Nat.le_trans H.kK (Nat.le_add_right _ _)) H.c3 (by decide) hk, by rw [hn]; exact H.row3 _ (fun i hi => by unfold upd; by_cases e : i = k <;> simp [e, hx]; exact H.ch i hi), fr.up ⟨by omega, by omega⟩⟩
theorem StC.cp3 (H : StC h a s) (HB : StC h b t) (hd : ∀ i, i ≤ 10 → ∀ k, k ≤ 10 → b + i ≠ a + k) : ∃ h1, cpI .char h (b + 3) (0 : Int32) (a + 3) (0 : Int32) (10 : Int32) = some h1 ∧ StC h1 a (setR s 3 (va_cpy (t 3) (s 3) 0 0 10)) ∧ StC h1 b t ∧ fr (stW a) h h1 := ⟨_, cpI_of (k := 10) (Nat.le_trans HB.kK (Nat.le_add_right _ _)) (Nat.le_trans H.kK (Nat.le_add_right _ _)) HB.c3 H.c3 (by decide) (by decide) (by decide) (fun i hi => HB.ch i hi), H.row3 _ (fun i hi => by unfold va_cpy; rw [if_pos (by omega)]; simp; exact HB.ch i hi), HB.up (fun i hi => hd i hi 3 (by decide)), fr.up ⟨by omega, by omega⟩⟩
theorem StC.row4 (H : StC h a s) (f : Nat → Int32) : StC (h.1, z_up h.2 (a + 4) (.inl (.int, 10, .inl f))) a (setR s 4 f) := ⟨H.kK, H.lt, (z_up_n _ _ (by omega)).trans H.ob, (z_up_n _ _ (by omega)).trans H.c1, (z_up_n _ _ (by omega)).trans H.c2, (z_up_n _ _ (by omega)).trans H.c3, z_up_s _ _ _, (z_up_n _ _ (by omega)).trans H.c5, (z_up_n _ _ (by omega)).trans H.c6, (z_up_n _ _ (by omega)).trans H.c7, (z_up_n _ _ (by omega)).trans H.c8, (z_up_n _ _ (by omega)).trans H.c9, (z_up_n _ _ (by omega)).trans H.c10, H.ch, H.li⟩
theorem StC.s4 (H : StC h a s) {k : Nat} {x : Int32} (hk : k < 10) : ∃ h1, asI .int h (a + 4) (w k) x = some h1 ∧ StC h1 a (setR s 4 (upd (s 4) k x)) ∧ fr (stW a) h h1 := ⟨_, asI_of (Nat.le_trans H.kK (Nat.le_add_right _ _)) H.c4 (by decide) hk, H.row4 _, fr.up ⟨by omega, by omega⟩⟩
theorem StC.cp4 (H : StC h a s) (HB : StC h b t) (hd : ∀ i, i ≤ 10 → ∀ k, k ≤ 10 → b + i ≠ a + k) : ∃ h1, cpI .int h (b + 4) (0 : Int32) (a + 4) (0 : Int32) (10 : Int32) = some h1 ∧ StC h1 a (setR s 4 (va_cpy (t 4) (s 4) 0 0 10)) ∧ StC h1 b t ∧ fr (stW a) h h1 := ⟨_, cpI_of (k := 10) (Nat.le_trans HB.kK (Nat.le_add_right _ _)) (Nat.le_trans H.kK (Nat.le_add_right _ _)) HB.c4 H.c4 (by decide) (by decide) (by decide) (fun _ _ => rfl), H.row4 _, HB.up (fun i hi => hd i hi 4 (by decide)), fr.up ⟨by omega, by omega⟩⟩
theorem StC.row5 (H : StC h a s) (f : Nat → Int32) : StC (h.1, z_up h.2 (a + 5) (.inl (.int, 12, .inl f))) a (setR s 5 f) := ⟨H.kK, H.lt, (z_up_n _ _ (by omega)).trans H.ob, (z_up_n _ _ (by omega)).trans H.c1, (z_up_n _ _ (by omega)).trans H.c2, (z_up_n _ _ (by omega)).trans H.c3, (z_up_n _ _ (by omega)).trans H.c4, z_up_s _ _ _, (z_up_n _ _ (by omega)).trans H.c6, (z_up_n _ _ (by omega)).trans H.c7, (z_up_n _ _ (by omega)).trans H.c8, (z_up_n _ _ (by omega)).trans H.c9, (z_up_n _ _ (by omega)).trans H.c10, H.ch, H.li⟩
theorem StC.s5 (H : StC h a s) {k : Nat} {x : Int32} (hk : k < 12) : ∃ h1, asI .int h (a + 5) (w k) x = some h1 ∧ StC h1 a (setR s 5 (upd (s 5) k x)) ∧ fr (stW a) h h1 := ⟨_, asI_of (Nat.le_trans H.kK (Nat.le_add_right _ _)) H.c5 (by decide) hk, H.row5 _, fr.up ⟨by omega, by omega⟩⟩
theorem StC.cp5 (H : StC h a s) (HB : StC h b t) (hd : ∀ i, i ≤ 10 → ∀ k, k ≤ 10 → b + i ≠ a + k) : ∃ h1, cpI .int h (b + 5) (0 : Int32) (a + 5) (0 : Int32) (12 : Int32) = some h1 ∧ StC h1 a (setR s 5 (va_cpy (t 5) (s 5) 0 0 12)) ∧ StC h1 b t ∧ fr (stW a) h h1 := ⟨_, cpI_of (k := 12) (Nat.le_trans HB.kK (Nat.le_add_right _ _)) (Nat.le_trans H.kK (Nat.le_add_right _ _)) HB.c5 H.c5 (by decide) (by decide) (by decide) (fun _ _ => rfl), H.row5 _, HB.up (fun i hi => hd i hi 5 (by decide)), fr.up ⟨by omega, by omega⟩⟩
theorem StC.row6 (H : StC h a s) (f : Nat → Int32) : StC (h.1, z_up h.2 (a + 6) (.inl (.int, 12, .inl f))) a (setR s 6 f) := ⟨H.kK, H.lt, (z_up_n _ _ (by omega)).trans H.ob, (z_up_n _ _ (by omega)).trans H.c1, (z_up_n _ _ (by omega)).trans H.c2, (z_up_n _ _ (by omega)).trans H.c3, (z_up_n _ _ (by omega)).trans H.c4, (z_up_n _ _ (by omega)).trans H.c5, z_up_s _ _ _, (z_up_n _ _ (by omega)).trans H.c7, (z_up_n _ _ (by omega)).trans H.c8, (z_up_n _ _ (by omega)).trans H.c9, (z_up_n _ _ (by omega)).trans H.c10, H.ch, H.li⟩
theorem StC.s6 (H : StC h a s) {k : Nat} {x : Int32} (hk : k < 12) : ∃ h1, asI .int h (a + 6) (w k) x = some h1 ∧ StC h1 a (setR s 6 (upd (s 6) k x)) ∧ fr (stW a) h h1 := ⟨_, asI_of (Nat.le_trans H.kK (Nat.le_add_right _ _)) H.c6 (by decide) hk, H.row6 _, fr.up ⟨by omega, by omega⟩⟩
theorem StC.cp6 (H : StC h a s) (HB : StC h b t) (hd : ∀ i, i ≤ 10 → ∀ k, k ≤ 10 → b + i ≠ a + k) : ∃ h1, cpI .int h (b + 6) (0 : Int32) (a + 6) (0 : Int32) (12 : Int32) = some h1 ∧ StC h1 a (setR s 6 (va_cpy (t 6) (s 6) 0 0 12)) ∧ StC h1 b t ∧ fr (stW a) h h1 := ⟨_, cpI_of (k := 12) (Nat.le_trans HB.kK (Nat.le_add_right _ _)) (Nat.le_trans H.kK (Nat.le_add_right _ _)) HB.c6 H.c6 (by decide) (by decide) (by decide) (fun _ _ => rfl), H.row6 _, HB.up (fun i hi => hd i hi 6 (by decide)), fr.up ⟨by omega, by omega⟩⟩
theorem StC.row7 (H : StC h a s) (f : Nat → Int32) : StC (h.1, z_up h.2 (a + 7) (.inl (.int, 12, .inl f))) a (setR s 7 f) := ⟨H.kK, H.lt, (z_up_n _ _ (by omega)).trans H.ob, (z_up_n _ _ (by omega)).trans H.c1, (z_up_n _ _ (by omega)).trans H.c2, (z_up_n _ _ (by omega)).trans H.c3, (z_up_n _ _ (by omega)).trans H.c4, (z_up_n _ _ (by omega)).trans H.c5, (z_up_n _ _ (by omega)).trans H.c6, z_up_s _ _ _, (z_up_n _ _ (by omega)).trans H.c8, (z_up_n _ _ (by omega)).trans H.c9, (z_up_n _ _ (by omega)).trans H.c10, H.ch, H.li⟩
theorem StC.s7 (H : StC h a s) {k : Nat} {x : Int32} (hk : k < 12) : ∃ h1, asI .int h (a + 7) (w k) x = some h1 ∧ StC h1 a (setR s 7 (upd (s 7) k x)) ∧ fr (stW a) h h1 := ⟨_, asI_of (Nat.le_trans H.kK (Nat.le_add_right _ _)) H.c7 (by decide) hk, H.row7 _, fr.up ⟨by omega, by omega⟩⟩
theorem StC.cp7 (H : StC h a s) (HB : StC h b t) (hd : ∀ i, i ≤ 10 → ∀ k, k ≤ 10 → b + i ≠ a + k) : ∃ h1, cpI .int h (b + 7) (0 : Int32) (a + 7) (0 : Int32) (12 : Int32) = some h1 ∧ StC h1 a (setR s 7 (va_cpy (t 7) (s 7) 0 0 12)) ∧ StC h1 b t ∧ fr (stW a) h h1 := ⟨_, cpI_of (k := 12) (Nat.le_trans HB.kK (Nat.le_add_right _ _)) (Nat.le_trans H.kK (Nat.le_add_right _ _)) HB.c7 H.c7 (by decide) (by decide) (by decide) (fun _ _ => rfl), H.row7 _, HB.up (fun i hi => hd i hi 7 (by decide)), fr.up ⟨by omega, by omega⟩⟩
theorem StC.row9 (H : StC h a s) (f : Nat → Int32) : StC (h.1, z_up h.2 (a + 8) (.inl (.int, 5, .inl f))) a (setR s 9 f) := ⟨H.kK, H.lt, (z_up_n _ _ (by omega)).trans H.ob, (z_up_n _ _ (by omega)).trans H.c1, (z_up_n _ _ (by omega)).trans H.c2, (z_up_n _ _ (by omega)).trans H.c3, (z_up_n _ _ (by omega)).trans H.c4, (z_up_n _ _ (by omega)).trans H.c5, (z_up_n _ _ (by omega)).trans H.c6, (z_up_n _ _ (by omega)).trans H.c7, z_up_s _ _ _, (z_up_n _ _ (by omega)).trans H.c9, (z_up_n _ _ (by omega)).trans H.c10, H.ch, H.li⟩
theorem StC.s9 (H : StC h a s) {k : Nat} {x : Int32} (hk : k < 5) : ∃ h1, asI .int h (a + 8) (w k) x = some h1 ∧ StC h1 a (setR s 9 (upd (s 9) k x)) ∧ fr (stW a) h h1 := ⟨_, asI_of (Nat.le_trans H.kK (Nat.le_add_right _ _)) H.c8 (by decide) hk, H.row9 _, fr.up ⟨by omega, by omega⟩⟩
theorem StC.cp9 (H : StC h a s) (HB : StC h b t) (hd : ∀ i, i ≤ 10 → ∀ k, k ≤ 10 → b + i ≠ a + k) : ∃ h1, cpI .int h (b + 8) (0 : Int32) (a + 8) (0 : Int32) (5 : Int32) = some h1 ∧ StC h1 a (setR s 9 (va_cpy (t 9) (s 9) 0 0 5)) ∧ StC h1 b t ∧ fr (stW a) h h1 := ⟨_, cpI_of (k := 5) (Nat.le_trans HB.kK (Nat.le_add_right _ _)) (Nat.le_trans H.kK (Nat.le_add_right _ _)) HB.c8 H.c8 (by decide) (by decide) (by decide) (fun _ _ => rfl), H.row9 _, HB.up (fun i hi => hd i hi 8 (by decide)), fr.up ⟨by omega, by omega⟩⟩
theorem StC.row10 (H : StC h a s) (f : Nat → Int32) : StC (h.1, z_up h.2 (a + 9) (.inl (.int, 5, .inl f))) a (setR s 10 f) := ⟨H.kK, H.lt, (z_up_n _ _ (by omega)).trans H.ob, (z_up_n _ _ (by omega)).trans H.c1, (z_up_n _ _ (by omega)).trans H.c2, (z_up_n _ _ (by omega)).trans H.c3, (z_up_n _ _ (by omega)).trans H.c4, (z_up_n _ _ (by omega)).trans H.c5, (z_up_n _ _ (by omega)).trans H.c6, (z_up_n _ _ (by omega)).trans H.c7, (z_up_n _ _ (by omega)).trans H.c8, z_up_s _ _ _, (z_up_n _ _ (by omega)).trans H.c10, H.ch, H.li⟩
theorem StC.s10 (H : StC h a s) {k : Nat} {x : Int32} (hk : k < 5) : ∃ h1, asI .int h (a + 9) (w k) x = some h1 ∧ StC h1 a (setR s 10 (upd (s 10) k x)) ∧ fr (stW a) h h1 := ⟨_, asI_of (Nat.le_trans H.kK (Nat.le_add_right _ _)) H.c9 (by decide) hk, H.row10 _, fr.up ⟨by omega, by omega⟩⟩
theorem StC.cp10 (H : StC h a s) (HB : StC h b t) (hd : ∀ i, i ≤ 10 → ∀ k, k ≤ 10 → b + i ≠ a + k) : ∃ h1, cpI .int h (b + 9) (0 : Int32) (a + 9) (0 : Int32) (5 : Int32) = some h1 ∧ StC h1 a (setR s 10 (va_cpy (t 10) (s 10) 0 0 5)) ∧ StC h1 b t ∧ fr (stW a) h h1 := ⟨_, cpI_of (k := 5) (Nat.le_trans HB.kK (Nat.le_add_right _ _)) (Nat.le_trans H.kK (Nat.le_add_right _ _)) HB.c9 H.c9 (by decide) (by decide) (by decide) (fun _ _ => rfl), H.row10 _, HB.up (fun i hi => hd i hi 9 (by decide)), fr.up ⟨by omega, by omega⟩⟩
theorem StC.row11 (H : StC h a s) (f : Nat → Int32) : StC (h.1, z_up h.2 (a + 10) (.inl (.int, 5, .inl f))) a (setR s 11 f) := ⟨H.kK, H.lt, (z_up_n _ _ (by omega)).trans H.ob, (z_up_n _ _ (by omega)).trans H.c1, (z_up_n _ _ (by omega)).trans H.c2, (z_up_n _ _ (by omega)).trans H.c3, (z_up_n _ _ (by omega)).trans H.c4, (z_up_n _ _ (by omega)).trans H.c5, (z_up_n _ _ (by omega)).trans H.c6, (z_up_n _ _ (by omega)).trans H.c7, (z_up_n _ _ (by omega)).trans H.c8, (z_up_n _ _ (by omega)).trans H.c9, z_up_s _ _ _, H.ch, H.li⟩
theorem StC.s11 (H : StC h a s) {k : Nat} {x : Int32} (hk : k < 5) : ∃ h1, asI .int h (a + 10) (w k) x = some h1 ∧ StC h1 a (setR s 11 (upd (s 11) k x)) ∧ fr (stW a) h h1 := ⟨_, asI_of (Nat.le_trans H.kK (Nat.le_add_right _ _)) H.c10 (by decide) hk, H.row11 _, fr.up ⟨by omega, by omega⟩⟩
theorem StC.cp11 (H : StC h a s) (HB : StC h b t) (hd : ∀ i, i ≤ 10 → ∀ k, k ≤ 10 → b + i ≠ a + k) : ∃ h1, cpI .int h (b + 10) (0 : Int32) (a + 10) (0 : Int32) (5 : Int32) = some h1 ∧ StC h1 a (setR s 11 (va_cpy (t 11) (s 11) 0 0 5)) ∧ StC h1 b t ∧ fr (stW a) h h1 := ⟨_, cpI_of (k := 5) (Nat.le_trans HB.kK (Nat.le_add_right _ _)) (Nat.le_trans H.kK (Nat.le_add_right _ _)) HB.c10 H.c10 (by decide) (by decide) (by decide) (fun _ _ => rfl), H.row11 _, HB.up (fun i hi => hd i hi 10 (by decide)), fr.up ⟨by omega, by omega⟩⟩
/-- the same in all that counts -/
def rl (j : Nat) : Nat := if j = 0 then 1 else if j ≤ 4 then 10 else if j ≤ 7 then 12 else if j = 8 then 1 else if j ≤ 11 then 5 else 1
def Agr (s t : CS) : Prop := ∀ j, j ≤ 16 → ∀ k, k < rl j → s j k = t j k
theorem va_cpy0 {f g : Nat → Int32} {n k : Nat} (hk : k < n) : va_cpy f g 0 0 n k = f k := by
  unfold va_cpy
  rw [if_pos (by omega)]
  simp
set_option maxRecDepth 4000 in
theorem copyFrom_ok (HA : StC h a s) (HB : StC h b t) (hd : ∀ i, i ≤ 10 → ∀ k, k ≤ 10 → b + i ≠ a + k) : ∃ h1 s1, f_X7_copyFrom h a b = some h1 ∧ StC h1 a s1 ∧ Agr s1 t ∧ fr (stW a) h h1 := by
  unfold f_X7_copyFrom
  have hd0 : ∀ i, i ≤ 10 → b + i ≠ a := fun i hi => hd i hi 0 (by decide)
  obtain ⟨h1, e1, A1, F1, q1⟩ := HA.w0 (x := t 0 0)
  rw [HB.i0, Option.bind_some, e1, Option.bind_some]
  have B1 : StC h1 b t := by rw [q1]; exact HB.up hd0
  obtain ⟨h2, e2, A2, B2, F2⟩ := A1.cp1 B1 hd
  rw [B1.r1, Option.bind_some, A1.r1, Option.bind_some, e2, Option.bind_some]
  obtain ⟨h3, e3, A3, B3, F3⟩ := A2.cp2 B2 hd
  rw [B2.r2, Option.bind_some, A2.r2, Option.bind_some, e3, Option.bind_some]
  obtain ⟨h4, e4, A4, B4, F4⟩ := A3.cp3 B3 hd
  rw [B3.r3, Option.bind_some, A3.r3, Option.bind_some, e4, Option.bind_some]
  obtain ⟨h5, e5, A5, B5, F5⟩ := A4.cp4 B4 hd
  rw [B4.r4, Option.bind_some, A4.r4, Option.bind_some, e5, Option.bind_some]
  obtain ⟨h6, e6, A6, B6, F6⟩ := A5.cp5 B5 hd
  rw [B5.r5, Option.bind_some, A5.r5, Option.bind_some, e6, Option.bind_some]
  obtain ⟨h7, e7, A7, B7, F7⟩ := A6.cp6 B6 hd
  rw [B6.r6, Option.bind_some, A6.r6, Option.bind_some, e7, Option.bind_some]
  obtain ⟨h8, e8, A8, B8, F8⟩ := A7.cp7 B7 hd
  rw [B7.r7, Option.bind_some, A7.r7, Option.bind_some, e8, Option.bind_some]
  obtain ⟨h9, e9, A9, F9, q9⟩ := A8.w8 (x := t 8 0)
  rw [B8.i8, Option.bind_some, e9, Option.bind_some]
  have B9 : StC h9 b t := by rw [q9]; exact B8.up hd0
  obtain ⟨h10, e10, A10, B10, F10⟩ := A9.cp9 B9 hd
  rw [B9.r9, Option.bind_some, A9.r9, Option.bind_some, e10, Option.bind_some]
  obtain ⟨h11, e11, A11, B11, F11⟩ := A10.cp10 B10 hd
  rw [B10.r10, Option.bind_some, A10.r10, Option.bind_some, e11, Option.bind_some]
  obtain ⟨h12, e12, A12, B12, F12⟩ := A11.cp11 B11 hd
  rw [B11.r11, Option.bind_some, A11.r11, Option.bind_some, e12, Option.bind_some]
  obtain ⟨h13, e13, A13, F13, q13⟩ := A12.w12 (x := t 12 0) B12.li
  rw [B12.i12, Option.bind_some, show zn .boolean (t 12 0) = some (t 12 0) from by rcases B12.li with e | e <;> rw [e] <;> rfl, Option.bind_some, e13, Option.bind_some]
  have B13 : StC h13 b t := by rw [q13]; exact B12.up hd0
  obtain ⟨h14, e14, A14, F14, q14⟩ := A13.w13 (x := t 13 0)
  rw [B13.i13, Option.bind_some, e14, Option.bind_some]
  have B14 : StC h14 b t := by rw [q14]; exact B13.up hd0
  obtain ⟨h15, e15, A15, F15, q15⟩ := A14.w14 (x := t 14 0)
  rw [B14.i14, Option.bind_some, e15, Option.bind_some]
  have B15 : StC h15 b t := by rw [q15]; exact B14.up hd0
  obtain ⟨h16, e16, A16, F16, q16⟩ := A15.w15 (x := t 15 0)
  rw [B15.i15, Option.bind_some, e16, Option.bind_some]
  have B16 : StC h16 b t := by rw [q16]; exact B15.up hd0
  obtain ⟨h17, e17, A17, F17, q17⟩ := A16.w16 (x := t 16 0)
  rw [B16.i16, Option.bind_some, e17, Option.bind_some]
  have B17 : StC h17 b t := by rw [q17]; exact B16.up hd0
  refine ⟨_, _, rfl, A17, ?_, ((((((((((((((((F1.trans F2).trans F3).trans F4).trans F5).trans F6).trans F7).trans F8).trans F9).trans F10).trans F11).trans F12).trans F13).trans F14).trans F15).trans F16).trans F17)⟩
  intro j hj k hk
  match j, hj, hk with
  | 0, _, hk => rw [show k = 0 from by have h5 : k < 1 := hk; omega]; rfl
  | 1, _, hk => exact va_cpy0 (show k < 10 from hk)
  | 2, _, hk => exact va_cpy0 (show k < 10 from hk)
  | 3, _, hk => exact va_cpy0 (show k < 10 from hk)
  | 4, _, hk => exact va_cpy0 (show k < 10 from hk)
  | 5, _, hk => exact va_cpy0 (show k < 12 from hk)
  | 6, _, hk => exact va_cpy0 (show k < 12 from hk)
  | 7, _, hk => exact va_cpy0 (show k < 12 from hk)
  | 8, _, hk => rw [show k = 0 from by have h5 : k < 1 := hk; omega]; rfl
  | 9, _, hk => exact va_cpy0 (show k < 5 from hk)
  | 10, _, hk => exact va_cpy0 (show k < 5 from hk)
  | 11, _, hk => exact va_cpy0 (show k < 5 from hk)
  | 12, _, hk => rw [show k = 0 from by have h5 : k < 1 := hk; omega]; rfl
  | 13, _, hk => rw [show k = 0 from by have h5 : k < 1 := hk; omega]; rfl
  | 14, _, hk => rw [show k = 0 from by have h5 : k < 1 := hk; omega]; rfl
  | 15, _, hk => rw [show k = 0 from by have h5 : k < 1 := hk; omega]; rfl
  | 16, _, hk => rw [show k = 0 from by have h5 : k < 1 := hk; omega]; rfl
  | j + 17, hj, _ => exact absurd hj (by omega)
end STC
