/-! THE TEXT OBJECT ON THE HEAP: its numbers e, by fields (a scalar is a row of one) -/
section TXC
def txF (m : Nat) (e : CS) : List Value := [.ref (m + 1), .int (e 1 0), .int (e 2 0), .int (e 3 0), .ref (m + 2), .ref (m + 3), .ref (m + 4), .ref (m + 5), .int (e 8 0), .ref (m + 6), .int (e 10 0)]
def TxC (h : PH) (m : Nat) (e : CS) : Prop := kK ≤ m ∧ m + 6 < h.1 ∧ h.2 m = .inr (10, txF m e) ∧ h.2 (m + 1) = .inl (.char, 60, .inl (e 0)) ∧ h.2 (m + 2) = .inl (.int, 15, .inl (e 4)) ∧ h.2 (m + 3) = .inl (.int, 15, .inl (e 5)) ∧ h.2 (m + 4) = .inl (.int, 15, .inl (e 6)) ∧ h.2 (m + 5) = .inl (.int, 15, .inl (e 7)) ∧ h.2 (m + 6) = .inl (.int, 3, .inl (e 9))
variable {h h1 : PH} {m : Nat} {e : CS}
theorem TxC.kK (M : TxC h m e) : kK ≤ m := M.1
theorem TxC.lt (M : TxC h m e) : m + 6 < h.1 := M.2.1
theorem TxC.ob (M : TxC h m e) : h.2 m = .inr (10, txF m e) := M.2.2.1
theorem TxC.c0 (M : TxC h m e) : h.2 (m + 1) = .inl (.char, 60, .inl (e 0)) := M.2.2.2.1
theorem TxC.c4 (M : TxC h m e) : h.2 (m + 2) = .inl (.int, 15, .inl (e 4)) := M.2.2.2.2.1
theorem TxC.c5 (M : TxC h m e) : h.2 (m + 3) = .inl (.int, 15, .inl (e 5)) := M.2.2.2.2.2.1
theorem TxC.c6 (M : TxC h m e) : h.2 (m + 4) = .inl (.int, 15, .inl (e 6)) := M.2.2.2.2.2.2.1
theorem TxC.c7 (M : TxC h m e) : h.2 (m + 5) = .inl (.int, 15, .inl (e 7)) := M.2.2.2.2.2.2.2.1
theorem TxC.c9 (M : TxC h m e) : h.2 (m + 6) = .inl (.int, 3, .inl (e 9)) := M.2.2.2.2.2.2.2.2
theorem TxC.gd (M : TxC h m e) : gd h m 10 = some () := gd_of M.ob
theorem TxC.i1 (M : TxC h m e) : rdI h m 10 1 = some (e 1 0) := rdI_of M.ob rfl
theorem TxC.i2 (M : TxC h m e) : rdI h m 10 2 = some (e 2 0) := rdI_of M.ob rfl
theorem TxC.i3 (M : TxC h m e) : rdI h m 10 3 = some (e 3 0) := rdI_of M.ob rfl
theorem TxC.i8 (M : TxC h m e) : rdI h m 10 8 = some (e 8 0) := rdI_of M.ob rfl
theorem TxC.i10 (M : TxC h m e) : rdI h m 10 10 = some (e 10 0) := rdI_of M.ob rfl
theorem TxC.r0 (M : TxC h m e) : rdR h m 10 0 = some (m + 1) := rdR_of M.ob rfl
theorem TxC.a0 (M : TxC h m e) {k : Nat} (hk : k < 60) : alI .char h (m + 1) (w k) = some (e 0 k) := alI_of M.c0 (by decide) hk
theorem TxC.r4 (M : TxC h m e) : rdR h m 10 4 = some (m + 2) := rdR_of M.ob rfl
theorem TxC.a4 (M : TxC h m e) {k : Nat} (hk : k < 15) : alI .int h (m + 2) (w k) = some (e 4 k) := alI_of M.c4 (by decide) hk
theorem TxC.r5 (M : TxC h m e) : rdR h m 10 5 = some (m + 3) := rdR_of M.ob rfl
theorem TxC.a5 (M : TxC h m e) {k : Nat} (hk : k < 15) : alI .int h (m + 3) (w k) = some (e 5 k) := alI_of M.c5 (by decide) hk
theorem TxC.r6 (M : TxC h m e) : rdR h m 10 6 = some (m + 4) := rdR_of M.ob rfl
theorem TxC.a6 (M : TxC h m e) {k : Nat} (hk : k < 15) : alI .int h (m + 4) (w k) = some (e 6 k) := alI_of M.c6 (by decide) hk
theorem TxC.r7 (M : TxC h m e) : rdR h m 10 7 = some (m + 5) := rdR_of M.ob rfl
theorem TxC.a7 (M : TxC h m e) {k : Nat} (hk : k < 15) : alI .int h (m + 5) (w k) = some (e 7 k) := alI_of M.c7 (by decide) hk
theorem TxC.r9 (M : TxC h m e) : rdR h m 10 9 = some (m + 6) := rdR_of M.ob rfl
theorem TxC.a9 (M : TxC h m e) {k : Nat} (hk : k < 3) : alI .int h (m + 6) (w k) = some (e 9 k) := alI_of M.c9 (by decide) hk
def txW (m : Nat) : Nat → Prop := fun c => m ≤ c ∧ c ≤ m + 6
theorem TxC.eqs (M : TxC h m e) (hz : h1.1 ≥ h.1) (hc : ∀ i, i ≤ 6 → h1.2 (m + i) = h.2 (m + i)) : TxC h1 m e := ⟨M.kK, Nat.lt_of_lt_of_le M.lt hz, (hc 0 (by decide)).trans M.ob, (hc 1 (by decide)).trans M.c0, (hc 2 (by decide)).trans M.c4, (hc 3 (by decide)).trans M.c5, (hc 4 (by decide)).trans M.c6, (hc 5 (by decide)).trans M.c7, (hc 6 (by decide)).trans M.c9⟩
theorem TxC.frm {W : Nat → Prop} (M : TxC h m e) (F : fr W h h1) (hw : ∀ i, i ≤ 6 → ¬ W (m + i)) : TxC h1 m e := M.eqs F.1 (fun i hi => F.2 _ (by have := M.lt; omega) (hw i hi))
theorem TxC.w1 (M : TxC h m e) (x : Int32) : ∃ h1, wr h m 10 1 (.int x) = some h1 ∧ TxC h1 m (setR e 1 fun _ => x) ∧ fr (txW m) h h1 := ⟨(h.1, z_up h.2 m (.inr (10, txF m (setR e 1 fun _ => x)))), wr_of (fs := txF m e) M.kK M.ob (show 1 < 11 by decide), ⟨M.kK, M.lt, z_up_s _ _ _, (z_up_n _ _ (by omega)).trans M.c0, (z_up_n _ _ (by omega)).trans M.c4, (z_up_n _ _ (by omega)).trans M.c5, (z_up_n _ _ (by omega)).trans M.c6, (z_up_n _ _ (by omega)).trans M.c7, (z_up_n _ _ (by omega)).trans M.c9⟩, fr.up ⟨Nat.le_refl _, Nat.le_add_right _ _⟩⟩
theorem TxC.w2 (M : TxC h m e) (x : Int32) : ∃ h1, wr h m 10 2 (.int x) = some h1 ∧ TxC h1 m (setR e 2 fun _ => x) ∧ fr (txW m) h h1 := ⟨(h.1, z_up h.2 m (.inr (10, txF m (setR e 2 fun _ => x)))), wr_of (fs := txF m e) M.kK M.ob (show 2 < 11 by decide), ⟨M.kK, M.lt, z_up_s _ _ _, (z_up_n _ _ (by omega)).trans M.c0, (z_up_n _ _ (by omega)).trans M.c4, (z_up_n _ _ (by omega)).trans M.c5, (z_up_n _ _ (by omega)).trans M.c6, (z_up_n _ _ (by omega)).trans M.c7, (z_up_n _ _ (by omega)).trans M.c9⟩, fr.up ⟨Nat.le_refl _, Nat.le_add_right _ _⟩⟩
theorem TxC.w3 (M : TxC h m e) (x : Int32) : ∃ h1, wr h m 10 3 (.int x) = some h1 ∧ TxC h1 m (setR e 3 fun _ => x) ∧ fr (txW m) h h1 := ⟨(h.1, z_up h.2 m (.inr (10, txF m (setR e 3 fun _ => x)))), wr_of (fs := txF m e) M.kK M.ob (show 3 < 11 by decide), ⟨M.kK, M.lt, z_up_s _ _ _, (z_up_n _ _ (by omega)).trans M.c0, (z_up_n _ _ (by omega)).trans M.c4, (z_up_n _ _ (by omega)).trans M.c5, (z_up_n _ _ (by omega)).trans M.c6, (z_up_n _ _ (by omega)).trans M.c7, (z_up_n _ _ (by omega)).trans M.c9⟩, fr.up ⟨Nat.le_refl _, Nat.le_add_right _ _⟩⟩
theorem TxC.w8 (M : TxC h m e) (x : Int32) : ∃ h1, wr h m 10 8 (.int x) = some h1 ∧ TxC h1 m (setR e 8 fun _ => x) ∧ fr (txW m) h h1 := ⟨(h.1, z_up h.2 m (.inr (10, txF m (setR e 8 fun _ => x)))), wr_of (fs := txF m e) M.kK M.ob (show 8 < 11 by decide), ⟨M.kK, M.lt, z_up_s _ _ _, (z_up_n _ _ (by omega)).trans M.c0, (z_up_n _ _ (by omega)).trans M.c4, (z_up_n _ _ (by omega)).trans M.c5, (z_up_n _ _ (by omega)).trans M.c6, (z_up_n _ _ (by omega)).trans M.c7, (z_up_n _ _ (by omega)).trans M.c9⟩, fr.up ⟨Nat.le_refl _, Nat.le_add_right _ _⟩⟩
theorem TxC.w10 (M : TxC h m e) (x : Int32) : ∃ h1, wr h m 10 10 (.int x) = some h1 ∧ TxC h1 m (setR e 10 fun _ => x) ∧ fr (txW m) h h1 := ⟨(h.1, z_up h.2 m (.inr (10, txF m (setR e 10 fun _ => x)))), wr_of (fs := txF m e) M.kK M.ob (show 10 < 11 by decide), ⟨M.kK, M.lt, z_up_s _ _ _, (z_up_n _ _ (by omega)).trans M.c0, (z_up_n _ _ (by omega)).trans M.c4, (z_up_n _ _ (by omega)).trans M.c5, (z_up_n _ _ (by omega)).trans M.c6, (z_up_n _ _ (by omega)).trans M.c7, (z_up_n _ _ (by omega)).trans M.c9⟩, fr.up ⟨Nat.le_refl _, Nat.le_add_right _ _⟩⟩
theorem TxC.row0 (M : TxC h m e) (f : Nat → Int32) : TxC (h.1, z_up h.2 (m + 1) (.inl (.char, 60, .inl f))) m (setR e 0 f) := ⟨M.kK, M.lt, (z_up_n _ _ (by omega)).trans M.ob, z_up_s _ _ _, (z_up_n _ _ (by omega)).trans M.c4, (z_up_n _ _ (by omega)).trans M.c5, (z_up_n _ _ (by omega)).trans M.c6, (z_up_n _ _ (by omega)).trans M.c7, (z_up_n _ _ (by omega)).trans M.c9⟩
theorem TxC.s0 (M : TxC h m e) {k : Nat} (x : Int32) (hk : k < 60) : ∃ h1, asI .char h (m + 1) (w k) x = some h1 ∧ TxC h1 m (setR e 0 (upd (e 0) k (vp_nar .char x))) ∧ fr (txW m) h h1 := ⟨_, asI_of (Nat.le_trans M.kK (Nat.le_add_right _ _)) M.c0 (by decide) hk, M.row0 _, fr.up ⟨by omega, by omega⟩⟩
theorem TxC.row4 (M : TxC h m e) (f : Nat → Int32) : TxC (h.1, z_up h.2 (m + 2) (.inl (.int, 15, .inl f))) m (setR e 4 f) := ⟨M.kK, M.lt, (z_up_n _ _ (by omega)).trans M.ob, (z_up_n _ _ (by omega)).trans M.c0, z_up_s _ _ _, (z_up_n _ _ (by omega)).trans M.c5, (z_up_n _ _ (by omega)).trans M.c6, (z_up_n _ _ (by omega)).trans M.c7, (z_up_n _ _ (by omega)).trans M.c9⟩
theorem TxC.s4 (M : TxC h m e) {k : Nat} (x : Int32) (hk : k < 15) : ∃ h1, asI .int h (m + 2) (w k) x = some h1 ∧ TxC h1 m (setR e 4 (upd (e 4) k x)) ∧ fr (txW m) h h1 := ⟨_, asI_of (Nat.le_trans M.kK (Nat.le_add_right _ _)) M.c4 (by decide) hk, M.row4 _, fr.up ⟨by omega, by omega⟩⟩
theorem TxC.row5 (M : TxC h m e) (f : Nat → Int32) : TxC (h.1, z_up h.2 (m + 3) (.inl (.int, 15, .inl f))) m (setR e 5 f) := ⟨M.kK, M.lt, (z_up_n _ _ (by omega)).trans M.ob, (z_up_n _ _ (by omega)).trans M.c0, (z_up_n _ _ (by omega)).trans M.c4, z_up_s _ _ _, (z_up_n _ _ (by omega)).trans M.c6, (z_up_n _ _ (by omega)).trans M.c7, (z_up_n _ _ (by omega)).trans M.c9⟩
theorem TxC.s5 (M : TxC h m e) {k : Nat} (x : Int32) (hk : k < 15) : ∃ h1, asI .int h (m + 3) (w k) x = some h1 ∧ TxC h1 m (setR e 5 (upd (e 5) k x)) ∧ fr (txW m) h h1 := ⟨_, asI_of (Nat.le_trans M.kK (Nat.le_add_right _ _)) M.c5 (by decide) hk, M.row5 _, fr.up ⟨by omega, by omega⟩⟩
theorem TxC.row6 (M : TxC h m e) (f : Nat → Int32) : TxC (h.1, z_up h.2 (m + 4) (.inl (.int, 15, .inl f))) m (setR e 6 f) := ⟨M.kK, M.lt, (z_up_n _ _ (by omega)).trans M.ob, (z_up_n _ _ (by omega)).trans M.c0, (z_up_n _ _ (by omega)).trans M.c4, (z_up_n _ _ (by omega)).trans M.c5, z_up_s _ _ _, (z_up_n _ _ (by omega)).trans M.c7, (z_up_n _ _ (by omega)).trans M.c9⟩
theorem TxC.s6 (M : TxC h m e) {k : Nat} (x : Int32) (hk : k < 15) : ∃ h1, asI .int h (m + 4) (w k) x = some h1 ∧ TxC h1 m (setR e 6 (upd (e 6) k x)) ∧ fr (txW m) h h1 := ⟨_, asI_of (Nat.le_trans M.kK (Nat.le_add_right _ _)) M.c6 (by decide) hk, M.row6 _, fr.up ⟨by omega, by omega⟩⟩
theorem TxC.row7 (M : TxC h m e) (f : Nat → Int32) : TxC (h.1, z_up h.2 (m + 5) (.inl (.int, 15, .inl f))) m (setR e 7 f) := ⟨M.kK, M.lt, (z_up_n _ _ (by omega)).trans M.ob, (z_up_n _ _ (by omega)).trans M.c0, (z_up_n _ _ (by omega)).trans M.c4, (z_up_n _ _ (by omega)).trans M.c5, (z_up_n _ _ (by omega)).trans M.c6, z_up_s _ _ _, (z_up_n _ _ (by omega)).trans M.c9⟩
theorem TxC.s7 (M : TxC h m e) {k : Nat} (x : Int32) (hk : k < 15) : ∃ h1, asI .int h (m + 5) (w k) x = some h1 ∧ TxC h1 m (setR e 7 (upd (e 7) k x)) ∧ fr (txW m) h h1 := ⟨_, asI_of (Nat.le_trans M.kK (Nat.le_add_right _ _)) M.c7 (by decide) hk, M.row7 _, fr.up ⟨by omega, by omega⟩⟩
theorem TxC.row9 (M : TxC h m e) (f : Nat → Int32) : TxC (h.1, z_up h.2 (m + 6) (.inl (.int, 3, .inl f))) m (setR e 9 f) := ⟨M.kK, M.lt, (z_up_n _ _ (by omega)).trans M.ob, (z_up_n _ _ (by omega)).trans M.c0, (z_up_n _ _ (by omega)).trans M.c4, (z_up_n _ _ (by omega)).trans M.c5, (z_up_n _ _ (by omega)).trans M.c6, (z_up_n _ _ (by omega)).trans M.c7, z_up_s _ _ _⟩
theorem TxC.s9 (M : TxC h m e) {k : Nat} (x : Int32) (hk : k < 3) : ∃ h1, asI .int h (m + 6) (w k) x = some h1 ∧ TxC h1 m (setR e 9 (upd (e 9) k x)) ∧ fr (txW m) h h1 := ⟨_, asI_of (Nat.le_trans M.kK (Nat.le_add_right _ _)) M.c9 (by decide) hk, M.row9 _, fr.up ⟨by omega, by omega⟩⟩
end TXC
