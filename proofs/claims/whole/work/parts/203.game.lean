/-! THE GAME'S NUMBERS: one row g (counts and sums, currents, quotas, what was landed, notes by fours, nets by threes); what of it holds always; how a State object shows it -/
section GOK
abbrev GS : Type := Nat → Int32
def nv (x : Int32) : Nat := x.toNatClampNeg
theorem nv_w {a : Nat} (h : a < 2147483648) : nv (w a) = a := w_nat h
def gN (g : GS) : Nat := nv (g 0)
def gM (g : GS) : Nat := nv (g 1)
def gD (g : GS) : Nat := nv (g 2)
def gP (g : GS) (k : Nat) : Nat := nv (g (44 + 4 * k))
def gT (g : GS) (k : Nat) : Nat := nv (g (45 + 4 * k))
def gH (g : GS) (k : Nat) : Nat := nv (g (46 + 4 * k))
def gU (g : GS) (k : Nat) : Nat := nv (g (47 + 4 * k))
def gF (g : GS) (k : Nat) : Nat := nv (g (84 + 3 * k))
def gE (g : GS) (k : Nat) : Nat := nv (g (85 + 3 * k))
def gK (g : GS) (k : Nat) : Nat := nv (g (86 + 3 * k))
def gQ (g : GS) (p : Nat) : Nat := nv (g (20 + p))
def gL (g : GS) (p : Nat) : Nat := nv (g (32 + p))
def okNote (g : GS) (k : Nat) : Prop := g (44 + 4 * k) = w (gP g k) ∧ gP g k < 12 ∧ g (45 + 4 * k) = w (gT g k) ∧ 1 ≤ gT g k ∧ gT g k ≤ 30 ∧ g (46 + 4 * k) = w (gH g k) ∧ gH g k < 3 ∧ g (47 + 4 * k) = w (gU g k) ∧ gU g k < 2 ^ gN g ∧ (gU g k).testBit k = false
def okPage (g : GS) (p : Nat) : Prop := (g (8 + p) = 0 ∨ g (8 + p) = 1 ∨ g (8 + p) = -1) ∧ g (20 + p) = w (gQ g p) ∧ gQ g p ≤ 99 ∧ g (32 + p) = w (gL g p) ∧ gL g p ≤ 198
def okNet (g : GS) (k : Nat) : Prop := g (84 + 3 * k) = w (gF g k) ∧ gF g k < 12 ∧ g (85 + 3 * k) = w (gE g k) ∧ 1 ≤ gE g k ∧ gE g k ≤ 12 ∧ g (86 + 3 * k) = w (gK g k) ∧ 1 ≤ gK g k ∧ gK g k ≤ 30
def Ok (B : Nat) (g : GS) : Prop := B < 1000000000 ∧ g 0 = w (gN g) ∧ gN g ≤ 10 ∧ g 1 = w (gM g) ∧ gM g ≤ 5 ∧ g 2 = w (gD g) ∧ gD g ≤ B ∧ (g 3 = 0 ∨ g 3 = 1) ∧ (∀ k, k < gN g → okNote g k) ∧ (∀ p, p < 12 → okPage g p) ∧ (∀ k, k < gM g → okNet g k) ∧ g 6 = w (cn (fun k => gH g k == 2) (gN g))
variable {B : Nat} {g : GS} {h h1 : PH} {a : Nat}
theorem Ok.hb (O : Ok B g) : B < 1000000000 := O.1
theorem Ok.g0 (O : Ok B g) : g 0 = w (gN g) := O.2.1
theorem Ok.n (O : Ok B g) : gN g ≤ 10 := O.2.2.1
theorem Ok.g1 (O : Ok B g) : g 1 = w (gM g) := O.2.2.2.1
theorem Ok.m (O : Ok B g) : gM g ≤ 5 := O.2.2.2.2.1
theorem Ok.g2 (O : Ok B g) : g 2 = w (gD g) := O.2.2.2.2.2.1
theorem Ok.d (O : Ok B g) : gD g ≤ B := O.2.2.2.2.2.2.1
theorem Ok.li (O : Ok B g) : g 3 = 0 ∨ g 3 = 1 := O.2.2.2.2.2.2.2.1
theorem Ok.note (O : Ok B g) {k : Nat} (hk : k < gN g) : okNote g k := O.2.2.2.2.2.2.2.2.1 k hk
theorem Ok.page (O : Ok B g) {p : Nat} (hp : p < 12) : okPage g p := O.2.2.2.2.2.2.2.2.2.1 p hp
theorem Ok.net (O : Ok B g) {k : Nat} (hk : k < gM g) : okNet g k := O.2.2.2.2.2.2.2.2.2.2.1 k hk
theorem Ok.g6 (O : Ok B g) : g 6 = w (cn (fun k => gH g k == 2) (gN g)) := O.2.2.2.2.2.2.2.2.2.2.2
/-- the letter of a place -/
def wc (n : Nat) : Int32 := if n = 0 then 102 else if n = 1 then 104 else 108
theorem wc_fits (n : Nat) : fits .char (.int (wc n)) = true := by
  unfold wc
  split
  · rfl
  · split <;> rfl
theorem wc_nar (n : Nat) : vp_nar .char (wc n) = wc n := by
  unfold wc
  split
  · rfl
  · split <;> rfl
theorem wc_zn (n : Nat) : zn .char (wc n) = some (wc n) := by
  unfold wc
  split
  · rfl
  · split <;> rfl
theorem wc_0 {n : Nat} (hn : n < 3) : (wc n == 102) = (n == 0) := by
  match n, hn with
  | 0, _ => rfl
  | 1, _ => rfl
  | 2, _ => rfl
  | n + 3, h => exact absurd h (by omega)
theorem wc_1 {n : Nat} (hn : n < 3) : (wc n == 104) = (n == 1) := by
  match n, hn with
  | 0, _ => rfl
  | 1, _ => rfl
  | 2, _ => rfl
  | n + 3, h => exact absurd h (by omega)
theorem wc_2 {n : Nat} (hn : n < 3) : (wc n == 108) = (n == 2) := by
  match n, hn with
  | 0, _ => rfl
  | 1, _ => rfl
  | 2, _ => rfl
  | n + 3, h => exact absurd h (by omega)
def Rel (s : CS) (g : GS) : Prop := s 0 0 = g 0 ∧ s 8 0 = g 1 ∧ s 13 0 = g 2 ∧ s 12 0 = g 3 ∧ s 14 0 = g 4 ∧ s 15 0 = g 5 ∧ s 16 0 = g 7 ∧ (∀ k, k < gN g → s 1 k = g (44 + 4 * k) ∧ s 2 k = g (45 + 4 * k) ∧ s 3 k = wc (gH g k) ∧ s 4 k = g (47 + 4 * k)) ∧ (∀ p, p < 12 → s 5 p = g (8 + p) ∧ s 6 p = g (20 + p) ∧ s 7 p = g (32 + p)) ∧ (∀ k, k < gM g → s 9 k = g (84 + 3 * k) ∧ s 10 k = g (85 + 3 * k) ∧ s 11 k = g (86 + 3 * k))
/-- a State object at a that shows g -/
def Sg (B : Nat) (h : PH) (a : Nat) (g : GS) : Prop := Ok B g ∧ ∃ s, StC h a s ∧ Rel s g
theorem Rel.agr {s t : CS} (O : Ok B g) (R : Rel t g) (A : Agr s t) : Rel s g := by
  obtain ⟨r1, r2, r3, r4, r5, r6, r7, r8, r9, r10⟩ := R
  have hn := O.n
  have hm := O.m
  refine ⟨(A 0 (by decide) 0 (by decide)).trans r1, (A 8 (by decide) 0 (by decide)).trans r2, (A 13 (by decide) 0 (by decide)).trans r3, (A 12 (by decide) 0 (by decide)).trans r4, (A 14 (by decide) 0 (by decide)).trans r5, (A 15 (by decide) 0 (by decide)).trans r6, (A 16 (by decide) 0 (by decide)).trans r7, fun k hk => ?_, fun p hp => ?_, fun k hk => ?_⟩
  · obtain ⟨q1, q2, q3, q4⟩ := r8 k hk
    exact ⟨(A 1 (by decide) k (show k < 10 by omega)).trans q1, (A 2 (by decide) k (show k < 10 by omega)).trans q2, (A 3 (by decide) k (show k < 10 by omega)).trans q3, (A 4 (by decide) k (show k < 10 by omega)).trans q4⟩
  · obtain ⟨q1, q2, q3⟩ := r9 p hp
    exact ⟨(A 5 (by decide) p (show p < 12 by omega)).trans q1, (A 6 (by decide) p (show p < 12 by omega)).trans q2, (A 7 (by decide) p (show p < 12 by omega)).trans q3⟩
  · obtain ⟨q1, q2, q3⟩ := r10 k hk
    exact ⟨(A 9 (by decide) k (show k < 5 by omega)).trans q1, (A 10 (by decide) k (show k < 5 by omega)).trans q2, (A 11 (by decide) k (show k < 5 by omega)).trans q3⟩
theorem Sg.frm {W : Nat → Prop} (H : Sg B h a g) (F : fr W h h1) (hw : ∀ i, i ≤ 10 → ¬ W (a + i)) : Sg B h1 a g := by
  obtain ⟨O, s, S, R⟩ := H
  exact ⟨O, s, S.frm F hw, R⟩
theorem Sg.copy {b : Nat} {s : CS} (HA : StC h a s) (HB : Sg B h b g) (hd : ∀ i, i ≤ 10 → ∀ k, k ≤ 10 → b + i ≠ a + k) : ∃ h1, f_X7_copyFrom h a b = some h1 ∧ Sg B h1 a g ∧ fr (stW a) h h1 := by
  obtain ⟨O, t, T, R⟩ := HB
  obtain ⟨h1, s1, e, S1, A, F⟩ := copyFrom_ok HA T hd
  exact ⟨h1, e, ⟨O, s1, S1, R.agr O A⟩, F⟩
theorem Sg.st (H : Sg B h a g) : ∃ s, StC h a s := ⟨H.2.choose, H.2.choose_spec.1⟩
theorem Sg.ok (H : Sg B h a g) : Ok B g := H.1
theorem Sg.gd (H : Sg B h a g) : gd h a 9 = some () := H.2.choose_spec.1.gd
theorem Sg.i0 (H : Sg B h a g) : rdI h a 9 0 = some (w (gN g)) := by
  obtain ⟨O, s, S, R⟩ := H
  rw [S.i0, R.1, O.g0]
theorem Sg.i8 (H : Sg B h a g) : rdI h a 9 8 = some (w (gM g)) := by
  obtain ⟨O, s, S, R⟩ := H
  rw [S.i8, R.2.1, O.g1]
theorem Sg.i13 (H : Sg B h a g) : rdI h a 9 13 = some (w (gD g)) := by
  obtain ⟨O, s, S, R⟩ := H
  rw [S.i13, R.2.2.1, O.g2]
theorem Sg.i12 (H : Sg B h a g) : rdI h a 9 12 = some (g 3) := by
  obtain ⟨O, s, S, R⟩ := H
  rw [S.i12, R.2.2.2.1]
theorem Sg.i14 (H : Sg B h a g) : rdI h a 9 14 = some (g 4) := by
  obtain ⟨O, s, S, R⟩ := H
  rw [S.i14, R.2.2.2.2.1]
theorem Sg.i15 (H : Sg B h a g) : rdI h a 9 15 = some (g 5) := by
  obtain ⟨O, s, S, R⟩ := H
  rw [S.i15, R.2.2.2.2.2.1]
theorem Sg.i16 (H : Sg B h a g) : rdI h a 9 16 = some (g 7) := by
  obtain ⟨O, s, S, R⟩ := H
  rw [S.i16, R.2.2.2.2.2.2.1]
theorem Sg.r1 (H : Sg B h a g) : rdR h a 9 1 = some (a + 1) := H.2.choose_spec.1.r1
theorem Sg.r2 (H : Sg B h a g) : rdR h a 9 2 = some (a + 2) := H.2.choose_spec.1.r2
theorem Sg.r3 (H : Sg B h a g) : rdR h a 9 3 = some (a + 3) := H.2.choose_spec.1.r3
theorem Sg.r4 (H : Sg B h a g) : rdR h a 9 4 = some (a + 4) := H.2.choose_spec.1.r4
theorem Sg.r5 (H : Sg B h a g) : rdR h a 9 5 = some (a + 5) := H.2.choose_spec.1.r5
theorem Sg.r6 (H : Sg B h a g) : rdR h a 9 6 = some (a + 6) := H.2.choose_spec.1.r6
theorem Sg.r7 (H : Sg B h a g) : rdR h a 9 7 = some (a + 7) := H.2.choose_spec.1.r7
theorem Sg.r9 (H : Sg B h a g) : rdR h a 9 9 = some (a + 8) := H.2.choose_spec.1.r9
theorem Sg.r10 (H : Sg B h a g) : rdR h a 9 10 = some (a + 9) := H.2.choose_spec.1.r10
theorem Sg.r11 (H : Sg B h a g) : rdR h a 9 11 = some (a + 10) := H.2.choose_spec.1.r11
variable {k p : Nat}
theorem Sg.a1 (H : Sg B h a g) (hk : k < gN g) : alI .int h (a + 1) (w k) = some (w (gP g k)) := by
  obtain ⟨O, s, S, R⟩ := H
  rw [S.a1 (Nat.lt_of_lt_of_le hk O.n), (R.2.2.2.2.2.2.2.1 k hk).1, (O.note hk).1]
theorem Sg.a2 (H : Sg B h a g) (hk : k < gN g) : alI .int h (a + 2) (w k) = some (w (gT g k)) := by
  obtain ⟨O, s, S, R⟩ := H
  rw [S.a2 (Nat.lt_of_lt_of_le hk O.n), (R.2.2.2.2.2.2.2.1 k hk).2.1, (O.note hk).2.2.1]
theorem Sg.a3 (H : Sg B h a g) (hk : k < gN g) : alI .char h (a + 3) (w k) = some (wc (gH g k)) := by
  obtain ⟨O, s, S, R⟩ := H
  rw [S.a3 (Nat.lt_of_lt_of_le hk O.n), (R.2.2.2.2.2.2.2.1 k hk).2.2.1]
theorem Sg.a4 (H : Sg B h a g) (hk : k < gN g) : alI .int h (a + 4) (w k) = some (w (gU g k)) := by
  obtain ⟨O, s, S, R⟩ := H
  rw [S.a4 (Nat.lt_of_lt_of_le hk O.n), (R.2.2.2.2.2.2.2.1 k hk).2.2.2, (O.note hk).2.2.2.2.2.2.2.1]
theorem Sg.a5 (H : Sg B h a g) (hp : p < 12) : alI .int h (a + 5) (w p) = some (g (8 + p)) := by
  obtain ⟨O, s, S, R⟩ := H
  rw [S.a5 hp, (R.2.2.2.2.2.2.2.2.1 p hp).1]
theorem Sg.a6 (H : Sg B h a g) (hp : p < 12) : alI .int h (a + 6) (w p) = some (w (gQ g p)) := by
  obtain ⟨O, s, S, R⟩ := H
  rw [S.a6 hp, (R.2.2.2.2.2.2.2.2.1 p hp).2.1, (O.page hp).2.1]
theorem Sg.a7 (H : Sg B h a g) (hp : p < 12) : alI .int h (a + 7) (w p) = some (w (gL g p)) := by
  obtain ⟨O, s, S, R⟩ := H
  rw [S.a7 hp, (R.2.2.2.2.2.2.2.2.1 p hp).2.2, (O.page hp).2.2.2.1]
theorem Sg.a9 (H : Sg B h a g) (hk : k < gM g) : alI .int h (a + 8) (w k) = some (w (gF g k)) := by
  obtain ⟨O, s, S, R⟩ := H
  rw [S.a9 (Nat.lt_of_lt_of_le hk O.m), (R.2.2.2.2.2.2.2.2.2 k hk).1, (O.net hk).1]
theorem Sg.a10 (H : Sg B h a g) (hk : k < gM g) : alI .int h (a + 9) (w k) = some (w (gE g k)) := by
  obtain ⟨O, s, S, R⟩ := H
  rw [S.a10 (Nat.lt_of_lt_of_le hk O.m), (R.2.2.2.2.2.2.2.2.2 k hk).2.1, (O.net hk).2.2.1]
theorem Sg.a11 (H : Sg B h a g) (hk : k < gM g) : alI .int h (a + 10) (w k) = some (w (gK g k)) := by
  obtain ⟨O, s, S, R⟩ := H
  rw [S.a11 (Nat.lt_of_lt_of_le hk O.m), (R.2.2.2.2.2.2.2.2.2 k hk).2.2, (O.net hk).2.2.2.2.2.1]
end GOK
