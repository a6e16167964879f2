/-! what a note reaches; the Citations object; its table -/
section REACH
variable {B : Nat} {g : GS} {h h1 : PH} {a c k i j : Nat} {z : CS}
def Ed (g : GS) (k j : Nat) : Prop := k < gN g ∧ (gU g k).testBit j = true
def Rch (g : GS) (k j : Nat) : Prop := ∀ S : Nat → Prop, (∀ i, Ed g k i → S i) → (∀ i j, S i → Ed g i j → S j) → S j
theorem Rch.base (e : Ed g k j) : Rch g k j := fun _ h1 _ => h1 j e
theorem Rch.step (r : Rch g k i) (e : Ed g i j) : Rch g k j := fun S h1 h2 => h2 i j (r S h1 h2) e
theorem Rch.ind (r : Rch g k j) {S : Nat → Prop} (h1 : ∀ i, Ed g k i → S i) (h2 : ∀ i j, S i → Ed g i j → S j) : S j := r S h1 h2
theorem Rch.trans (r : Rch g k i) (q : Rch g i j) : Rch g k j := q.ind (S := fun x => Rch g k x) (fun _ e => r.step e) (fun _ _ h e => h.step e)
theorem Rch.head (e : Ed g k i) (q : Rch g i j) : Rch g k j := (Rch.base e).trans q
theorem Ed.lt (O : Ok B g) (e : Ed g k j) : j < gN g := Nat.lt_of_not_le fun q => by
  have := low_no (O.note e.1).2.2.2.2.2.2.2.2.1 q
  rw [e.2] at this
  exact absurd this (by decide)
theorem Ed.ne (O : Ok B g) (e : Ed g k j) : j ≠ k := fun q => by
  have := (O.note e.1).2.2.2.2.2.2.2.2.2
  rw [← q] at this
  have h2 := e.2
  rw [q] at this h2
  rw [this] at h2
  exact absurd h2 (by decide)
theorem Rch.lt (O : Ok B g) (r : Rch g k j) : j < gN g := r.ind (fun _ e => e.lt O) (fun _ _ _ e => e.lt O)
theorem gX_bit (S j : Nat) : (gX g S).testBit j = true ↔ ∃ k, S.testBit k = true ∧ Ed g k j := by
  unfold gX
  rw [ors_bit]
  constructor
  · rintro ⟨k, h1, h2⟩
    by_cases c : S.testBit k = true
    · rw [if_pos c] at h2; exact ⟨k, c, h1, h2⟩
    · rw [if_neg c, Nat.zero_testBit] at h2; exact absurd h2 (by decide)
  · rintro ⟨k, h1, h2, h3⟩
    exact ⟨k, h2, by rw [if_pos h1]; exact h3⟩
theorem gRs_bit (S j : Nat) : (gRs g S).testBit j = true ↔ S.testBit j = true ∨ ∃ k, S.testBit k = true ∧ Ed g k j := by
  unfold gRs
  rw [Nat.testBit_or, Bool.or_eq_true, gX_bit]
theorem gRe_iff (O : Ok B g) (hk : k < gN g) : (gRe g k).testBit j = true ↔ Rch g k j := by
  constructor
  · have key : ∀ n j, (itr (gRs g) n (gU g k)).testBit j = true → Rch g k j := by
      intro n
      induction n with
      | zero => intro j hj; exact Rch.base ⟨hk, hj⟩
      | succ n ih =>
        intro j hj
        have hj : (gRs g (itr (gRs g) n (gU g k))).testBit j = true := hj
        rcases (gRs_bit _ _).mp hj with hj | ⟨i, h1, h2⟩
        · exact ih j hj
        · exact (ih i h1).step h2
    exact key _ j
  · intro r
    have rest : gRs g (gRe g k) = gRe g k := itr_rest (fun _ => gRs_lt O) (gRs_up g) (O.note hk).2.2.2.2.2.2.2.2.1
    have up : ∀ n j, (gU g k).testBit j = true → (itr (gRs g) n (gU g k)).testBit j = true := by
      intro n
      induction n with
      | zero => intro j hj; exact hj
      | succ n ih => intro j hj; exact gRs_up g _ j (ih j hj)
    refine r.ind (S := fun x => (gRe g k).testBit x = true) (fun i e => up _ i e.2) (fun i j h1 e => ?_)
    rw [← rest, gRs_bit]
    exact Or.inr ⟨i, h1, e⟩
def ciF (c : Nat) : List Value := [.ref (c + 1), .ref (c + 2), .ref (c + 3), .ref (c + 4), .ref (c + 5)]
def seF (c : Nat) (z : CS) : List Value := [.ref (c + 6), .int (z 5 0), .int (z 6 0), .int (z 7 0)]
/-- the Citations object at c with its search: rows reached, order, citing, tally, met, and the search's numbers -/
def CiC (h : PH) (c : Nat) (z : CS) : Prop := kK ≤ c ∧ c + 6 < h.1 ∧ h.2 c = .inr (4, ciF c) ∧ h.2 (c + 1) = .inl (.int, 10, .inl (z 0)) ∧ h.2 (c + 2) = .inl (.int, 10, .inl (z 1)) ∧ h.2 (c + 3) = .inl (.int, 10, .inl (z 2)) ∧ h.2 (c + 4) = .inl (.int, 10, .inl (z 3)) ∧ h.2 (c + 5) = .inr (6, seF c z) ∧ h.2 (c + 6) = .inl (.int, 10, .inl (z 4))
def ciW (c : Nat) : Nat → Prop := fun x => c ≤ x ∧ x ≤ c + 6
theorem CiC.kK (C : CiC h c z) : kK ≤ c := C.1
theorem CiC.gd (C : CiC h c z) : gd h c 4 = some () := gd_of C.2.2.1
theorem ciS (C : CiC h c z) : gd h (c + 5) 6 = some () := gd_of C.2.2.2.2.2.2.2.1
theorem CiC.r0 (C : CiC h c z) : rdR h c 4 0 = some (c + 1) := rdR_of C.2.2.1 rfl
theorem CiC.r1 (C : CiC h c z) : rdR h c 4 1 = some (c + 2) := rdR_of C.2.2.1 rfl
theorem CiC.r2 (C : CiC h c z) : rdR h c 4 2 = some (c + 3) := rdR_of C.2.2.1 rfl
theorem CiC.r3 (C : CiC h c z) : rdR h c 4 3 = some (c + 4) := rdR_of C.2.2.1 rfl
theorem CiC.r4 (C : CiC h c z) : rdR h c 4 4 = some (c + 5) := rdR_of C.2.2.1 rfl
theorem CiC.q0 (C : CiC h c z) : rdR h (c + 5) 6 0 = some (c + 6) := rdR_of C.2.2.2.2.2.2.2.1 rfl
theorem CiC.q1 (C : CiC h c z) : rdI h (c + 5) 6 1 = some (z 5 0) := rdI_of C.2.2.2.2.2.2.2.1 rfl
theorem CiC.q2 (C : CiC h c z) : rdI h (c + 5) 6 2 = some (z 6 0) := rdI_of C.2.2.2.2.2.2.2.1 rfl
theorem CiC.q3 (C : CiC h c z) : rdI h (c + 5) 6 3 = some (z 7 0) := rdI_of C.2.2.2.2.2.2.2.1 rfl
theorem CiC.a0 (C : CiC h c z) (hk : k < 10) : alI .int h (c + 1) (w k) = some (z 0 k) := alI_of C.2.2.2.1 (by decide) hk
theorem CiC.a1 (C : CiC h c z) (hk : k < 10) : alI .int h (c + 2) (w k) = some (z 1 k) := alI_of C.2.2.2.2.1 (by decide) hk
theorem CiC.a2 (C : CiC h c z) (hk : k < 10) : alI .int h (c + 3) (w k) = some (z 2 k) := alI_of C.2.2.2.2.2.1 (by decide) hk
theorem CiC.a3 (C : CiC h c z) (hk : k < 10) : alI .int h (c + 4) (w k) = some (z 3 k) := alI_of C.2.2.2.2.2.2.1 (by decide) hk
theorem CiC.a4 (C : CiC h c z) (hk : k < 10) : alI .int h (c + 6) (w k) = some (z 4 k) := alI_of C.2.2.2.2.2.2.2.2 (by decide) hk
theorem CiC.frm {W : Nat → Prop} (C : CiC h c z) (F : fr W h h1) (hw : ∀ i, i ≤ 6 → ¬ W (c + i)) : CiC h1 c z := by
  obtain ⟨q1, q2, q3, q4, q5, q6, q7, q8, q9⟩ := C
  have := F.1
  exact ⟨q1, by omega, (F.2 c (by omega) (hw 0 (by decide))).trans q3, (F.2 (c + 1) (by omega) (hw 1 (by decide))).trans q4, (F.2 (c + 2) (by omega) (hw 2 (by decide))).trans q5, (F.2 (c + 3) (by omega) (hw 3 (by decide))).trans q6, (F.2 (c + 4) (by omega) (hw 4 (by decide))).trans q7, (F.2 (c + 5) (by omega) (hw 5 (by decide))).trans q8, (F.2 (c + 6) (by omega) (hw 6 (by decide))).trans q9⟩
theorem CiC.row0 (C : CiC h c z) (f : Nat → Int32) : CiC (h.1, z_up h.2 (c + 1) (.inl (.int, 10, .inl f))) c (setR z 0 f) := by
  obtain ⟨q1, q2, q3, q4, q5, q6, q7, q8, q9⟩ := C
  exact ⟨q1, q2, (z_up_n _ _ (by omega)).trans q3, z_up_s _ _ _, (z_up_n _ _ (by omega)).trans q5, (z_up_n _ _ (by omega)).trans q6, (z_up_n _ _ (by omega)).trans q7, (z_up_n _ _ (by omega)).trans q8, (z_up_n _ _ (by omega)).trans q9⟩
theorem CiC.row1 (C : CiC h c z) (f : Nat → Int32) : CiC (h.1, z_up h.2 (c + 2) (.inl (.int, 10, .inl f))) c (setR z 1 f) := by
  obtain ⟨q1, q2, q3, q4, q5, q6, q7, q8, q9⟩ := C
  exact ⟨q1, q2, (z_up_n _ _ (by omega)).trans q3, (z_up_n _ _ (by omega)).trans q4, z_up_s _ _ _, (z_up_n _ _ (by omega)).trans q6, (z_up_n _ _ (by omega)).trans q7, (z_up_n _ _ (by omega)).trans q8, (z_up_n _ _ (by omega)).trans q9⟩
theorem CiC.row2 (C : CiC h c z) (f : Nat → Int32) : CiC (h.1, z_up h.2 (c + 3) (.inl (.int, 10, .inl f))) c (setR z 2 f) := by
  obtain ⟨q1, q2, q3, q4, q5, q6, q7, q8, q9⟩ := C
  exact ⟨q1, q2, (z_up_n _ _ (by omega)).trans q3, (z_up_n _ _ (by omega)).trans q4, (z_up_n _ _ (by omega)).trans q5, z_up_s _ _ _, (z_up_n _ _ (by omega)).trans q7, (z_up_n _ _ (by omega)).trans q8, (z_up_n _ _ (by omega)).trans q9⟩
theorem CiC.row3 (C : CiC h c z) (f : Nat → Int32) : CiC (h.1, z_up h.2 (c + 4) (.inl (.int, 10, .inl f))) c (setR z 3 f) := by
  obtain ⟨q1, q2, q3, q4, q5, q6, q7, q8, q9⟩ := C
  exact ⟨q1, q2, (z_up_n _ _ (by omega)).trans q3, (z_up_n _ _ (by omega)).trans q4, (z_up_n _ _ (by omega)).trans q5, (z_up_n _ _ (by omega)).trans q6, z_up_s _ _ _, (z_up_n _ _ (by omega)).trans q8, (z_up_n _ _ (by omega)).trans q9⟩
theorem CiC.row4 (C : CiC h c z) (f : Nat → Int32) : CiC (h.1, z_up h.2 (c + 6) (.inl (.int, 10, .inl f))) c (setR z 4 f) := by
  obtain ⟨q1, q2, q3, q4, q5, q6, q7, q8, q9⟩ := C
  exact ⟨q1, q2, (z_up_n _ _ (by omega)).trans q3, (z_up_n _ _ (by omega)).trans q4, (z_up_n _ _ (by omega)).trans q5, (z_up_n _ _ (by omega)).trans q6, (z_up_n _ _ (by omega)).trans q7, (z_up_n _ _ (by omega)).trans q8, z_up_s _ _ _⟩
theorem CiC.obj (C : CiC h c z) {z' : CS} (hz : ∀ r, r < 5 → z' r = z r) : CiC (h.1, z_up h.2 (c + 5) (.inr (6, seF c z'))) c z' := by
  obtain ⟨q1, q2, q3, q4, q5, q6, q7, q8, q9⟩ := C
  exact ⟨q1, q2, (z_up_n _ _ (by omega)).trans q3, by rw [hz 0 (by decide)]; exact (z_up_n _ _ (by omega)).trans q4, by rw [hz 1 (by decide)]; exact (z_up_n _ _ (by omega)).trans q5, by rw [hz 2 (by decide)]; exact (z_up_n _ _ (by omega)).trans q6, by rw [hz 3 (by decide)]; exact (z_up_n _ _ (by omega)).trans q7, z_up_s _ _ _, by rw [hz 4 (by decide)]; exact (z_up_n _ _ (by omega)).trans q9⟩
theorem CiC.s0 (C : CiC h c z) {x : Int32} (hk : k < 10) : ∃ h1, asI .int h (c + 1) (w k) x = some h1 ∧ CiC h1 c (setR z 0 (upd (z 0) k x)) ∧ fr (ciW c) h h1 := ⟨_, asI_of (Nat.le_trans C.kK (Nat.le_add_right _ _)) C.2.2.2.1 (by decide) hk, C.row0 _, fr.up ⟨by omega, by omega⟩⟩
theorem CiC.s1 (C : CiC h c z) {x : Int32} (hk : k < 10) : ∃ h1, asI .int h (c + 2) (w k) x = some h1 ∧ CiC h1 c (setR z 1 (upd (z 1) k x)) ∧ fr (ciW c) h h1 := ⟨_, asI_of (Nat.le_trans C.kK (Nat.le_add_right _ _)) C.2.2.2.2.1 (by decide) hk, C.row1 _, fr.up ⟨by omega, by omega⟩⟩
theorem CiC.s2 (C : CiC h c z) {x : Int32} (hk : k < 10) : ∃ h1, asI .int h (c + 3) (w k) x = some h1 ∧ CiC h1 c (setR z 2 (upd (z 2) k x)) ∧ fr (ciW c) h h1 := ⟨_, asI_of (Nat.le_trans C.kK (Nat.le_add_right _ _)) C.2.2.2.2.2.1 (by decide) hk, C.row2 _, fr.up ⟨by omega, by omega⟩⟩
theorem CiC.s3 (C : CiC h c z) {x : Int32} (hk : k < 10) : ∃ h1, asI .int h (c + 4) (w k) x = some h1 ∧ CiC h1 c (setR z 3 (upd (z 3) k x)) ∧ fr (ciW c) h h1 := ⟨_, asI_of (Nat.le_trans C.kK (Nat.le_add_right _ _)) C.2.2.2.2.2.2.1 (by decide) hk, C.row3 _, fr.up ⟨by omega, by omega⟩⟩
theorem CiC.s4 (C : CiC h c z) {x : Int32} (hk : k < 10) : ∃ h1, asI .int h (c + 6) (w k) x = some h1 ∧ CiC h1 c (setR z 4 (upd (z 4) k x)) ∧ fr (ciW c) h h1 := ⟨_, asI_of (Nat.le_trans C.kK (Nat.le_add_right _ _)) C.2.2.2.2.2.2.2.2 (by decide) hk, C.row4 _, fr.up ⟨by omega, by omega⟩⟩
theorem CiC.w1 (C : CiC h c z) {x : Int32} : ∃ h1, wr h (c + 5) 6 1 (.int x) = some h1 ∧ CiC h1 c (setR z 5 fun _ => x) ∧ fr (ciW c) h h1 := ⟨_, wr_of (fs := seF c z) (Nat.le_trans C.kK (Nat.le_add_right _ _)) C.2.2.2.2.2.2.2.1 (show 1 < 4 by decide), C.obj (z' := setR z 5 fun _ => x) (fun r hr => if_neg (by omega)), fr.up ⟨by omega, by omega⟩⟩
theorem CiC.w2 (C : CiC h c z) {x : Int32} : ∃ h1, wr h (c + 5) 6 2 (.int x) = some h1 ∧ CiC h1 c (setR z 6 fun _ => x) ∧ fr (ciW c) h h1 := ⟨_, wr_of (fs := seF c z) (Nat.le_trans C.kK (Nat.le_add_right _ _)) C.2.2.2.2.2.2.2.1 (show 2 < 4 by decide), C.obj (z' := setR z 6 fun _ => x) (fun r hr => if_neg (by omega)), fr.up ⟨by omega, by omega⟩⟩
theorem CiC.w3 (C : CiC h c z) {x : Int32} : ∃ h1, wr h (c + 5) 6 3 (.int x) = some h1 ∧ CiC h1 c (setR z 7 fun _ => x) ∧ fr (ciW c) h h1 := ⟨_, wr_of (fs := seF c z) (Nat.le_trans C.kK (Nat.le_add_right _ _)) C.2.2.2.2.2.2.2.1 (show 3 < 4 by decide), C.obj (z' := setR z 7 fun _ => x) (fun r hr => if_neg (by omega)), fr.up ⟨by omega, by omega⟩⟩
theorem Sg.ci (H : Sg B h a g) (F : fr (ciW c) h h1) (hd : ∀ i, i ≤ 10 → ¬ ciW c (a + i)) : Sg B h1 a g := H.frm F hd
end REACH
