/-! THE CLASS'S OBJECTS, all of them -/
section INVC
variable {B B' : Nat} {h h1 : PH} {g gs : GS} {K : Nat → GS} {c n N b k x s : Nat} {R : Nat → Option Nat} {so : Option Nat} {sn : Option GS} {d1 d2 d3 : Int32} {t : CS} {l : Nat → Int32}
def obF (so : Option Nat) : List Value := [.ref 87, .ref 98, .ref 109, .ref 111, .ref 114, .ref 121, .ref 128, .ref 129, va_rf so]
def ObC (h : PH) (so : Option Nat) : Prop := 140 < h.1 ∧ h.2 86 = .inr (11, obF so)
def snP (so : Option Nat) : Nat → Prop := fun x => ∃ s, so = some s ∧ stW s x
def SnC (B : Nat) (h : PH) (so : Option Nat) (sn : Option GS) : Prop := (so = none ∧ sn = none) ∨ ∃ s gs, so = some s ∧ sn = some gs ∧ 141 ≤ s ∧ Sg B h s gs
/-- the line's bytes -/
def LnC (h : PH) (b : Nat) (l : Nat → Int32) (n : Nat) : Prop := (b = 130 ∨ 141 ≤ b) ∧ b < h.1 ∧ n ≤ 34 ∧ ∃ mb cap f, h.2 129 = .inr (1, [.ref b, .int 0, .int mb, .int (w n)]) ∧ h.2 b = .inl (.byte, cap, .inl f) ∧ n ≤ cap ∧ (cap = 16 ∨ cap = 34) ∧ (∀ i, i < cap → ∃ z, z < 128 ∧ f i = w z) ∧ ∀ i, i < n → f i = l i
def IC (B : Nat) (h : PH) (g : GS) (K : Nat → GS) (c : Nat) (sn : Option GS) (d1 d2 d3 : Int32) (t : CS) (l : Nat → Int32) (n : Nat) : Prop := ∃ N R so b s2 f u z, ObC h so ∧ Sg B h 87 g ∧ StC h 98 s2 ∧ HiC h 109 N c R ∧ Rg B 141 h N c R K ∧ LaC h 111 f u ∧ CiC h 114 z ∧ TxC h 121 t ∧ LtC h 128 d1 d2 d3 ∧ LnC h b l n ∧ SnC B h so sn ∧ (∀ x, rgP R x → ¬ snP so x ∧ x ≠ b) ∧ ∀ x, snP so x → x ≠ b
/-- what the class's methods may write -/
def cW : Nat → Prop := fun x => (86 ≤ x ∧ x ≤ 130) ∨ 141 ≤ x
theorem ObC.gd (O : ObC h so) : gd h 86 11 = some () := gd_of O.2
theorem ObC.r0 (O : ObC h so) : rdR h 86 11 0 = some 87 := rdR_of O.2 rfl
theorem ObC.r1 (O : ObC h so) : rdR h 86 11 1 = some 98 := rdR_of O.2 rfl
theorem ObC.r2 (O : ObC h so) : rdR h 86 11 2 = some 109 := rdR_of O.2 rfl
theorem ObC.r3 (O : ObC h so) : rdR h 86 11 3 = some 111 := rdR_of O.2 rfl
theorem ObC.r4 (O : ObC h so) : rdR h 86 11 4 = some 114 := rdR_of O.2 rfl
theorem ObC.r5 (O : ObC h so) : rdR h 86 11 5 = some 121 := rdR_of O.2 rfl
theorem ObC.r6 (O : ObC h so) : rdR h 86 11 6 = some 128 := rdR_of O.2 rfl
theorem ObC.r7 (O : ObC h so) : rdR h 86 11 7 = some 129 := rdR_of O.2 rfl
theorem ObC.o8 (O : ObC h so) : rdO h 86 11 8 = some so := rdO_of (by decide) O.2 rfl
theorem ObC.frm {W : Nat → Prop} (O : ObC h so) (F : fr W h h1) (hw : ¬ W 86) : ObC h1 so := ⟨Nat.lt_of_lt_of_le O.1 F.1, (F.2 86 (by have := O.1; omega) hw).trans O.2⟩
theorem SnC.frm {W : Nat → Prop} (S : SnC B h so sn) (F : fr W h h1) (hw : ∀ x, snP so x → ¬ W x) : SnC B h1 so sn := by
  rcases S with S | ⟨s, gs, e1, e2, e3, S⟩
  · exact Or.inl S
  · exact Or.inr ⟨s, gs, e1, e2, e3, S.frm F fun i hi => hw _ ⟨s, e1, by omega, by omega⟩⟩
theorem SnC.le (S : SnC B h so sn) (h1 : B ≤ B') (hb : B' < 1000000000) : SnC B' h so sn := by
  rcases S with S | ⟨s, gs, e1, e2, e3, S⟩
  · exact Or.inl S
  · exact Or.inr ⟨s, gs, e1, e2, e3, S.le h1 hb⟩
theorem SnC.far (S : SnC B h so sn) (hx : snP so x) : 141 ≤ x ∧ x < h.1 := by
  obtain ⟨s, e, z⟩ := hx
  rcases S with S | ⟨s', gs, e1, e2, e3, S⟩
  · rw [S.1] at e; exact absurd e (by simp)
  · rw [e1] at e
    have q : s' = s := by simpa using e
    subst q
    obtain ⟨st, T⟩ := S.st
    have := T.lt
    have z1 := z.1
    have z2 := z.2
    omega
theorem Rg.far (G : Rg B 141 h N c R K) (hx : rgP R x) : 141 ≤ x ∧ x < h.1 := by
  obtain ⟨j, hj, a, ha, z⟩ := hx
  obtain ⟨a1, s, S⟩ := G.2.2.1 j hj a ha
  have := S.lt
  have z1 := z.1
  have z2 := z.2
  omega
theorem Rg.le (G : Rg B 141 h N c R K) (h1 : B ≤ B') (hb : B' < 1000000000) : Rg B' 141 h N c R K := by
  obtain ⟨g1, g2, g3, g4, g5⟩ := G
  refine ⟨g1, g2, g3, g4, fun i hi => ?_⟩
  obtain ⟨a, e, S⟩ := g5 i hi
  exact ⟨a, e, S.le h1 hb⟩
theorem LnC.frm {W : Nat → Prop} (L : LnC h b l n) (F : fr W h h1) (hw : ¬ W 129) (hb : ¬ W b) (hh : 140 < h.1) : LnC h1 b l n := by
  obtain ⟨p1, p2, p3, mb, cap, f, p4, p5, p6⟩ := L
  exact ⟨p1, Nat.lt_of_lt_of_le p2 F.1, p3, mb, cap, f, (F.2 129 (by omega) hw).trans p4, (F.2 b p2 hb).trans p5, p6⟩
theorem LaC.frm' {W : Nat → Prop} {f u : Nat → Int32} (L : LaC h 111 f u) (F : fr W h h1) (hw : ¬ W 111 ∧ ¬ W 112 ∧ ¬ W 113) : LaC h1 111 f u := L.frm F (fun i hi => by
  match i, hi with
  | 0, _ => exact hw.1
  | 1, _ => exact hw.2.1
  | 2, _ => exact hw.2.2)
theorem IC.le (I : IC B h g K c sn d1 d2 d3 t l n) (h1 : B ≤ B') (hb : B' < 1000000000) : IC B' h g K c sn d1 d2 d3 t l n := by
  obtain ⟨N, R, so, b, s2, f, u, z, i1, i2, i3, i4, i5, i6, i7, i8, i9, i10, i11, i12, i13⟩ := I
  exact ⟨N, R, so, b, s2, f, u, z, i1, i2.le h1 hb, i3, i4, i5.le h1 hb, i6, i7, i8, i9, i10, i11.le h1 hb, i12, i13⟩
/-- what others write leaves the class as it was -/
theorem IC.frm {W : Nat → Prop} (I : IC B h g K c sn d1 d2 d3 t l n) (F : fr W h h1) (hw : ∀ x, cW x → ¬ W x) : IC B h1 g K c sn d1 d2 d3 t l n := by
  obtain ⟨N, R, so, b, s2, f, u, z, i1, i2, i3, i4, i5, i6, i7, i8, i9, i10, i11, i12, i13⟩ := I
  have lo : ∀ x, 86 ≤ x → x ≤ 130 → ¬ W x := fun x h1 h2 => hw x (Or.inl ⟨h1, h2⟩)
  have hi' : ∀ x, 141 ≤ x → ¬ W x := fun x h1 => hw x (Or.inr h1)
  refine ⟨N, R, so, b, s2, f, u, z, i1.frm F (lo _ (by omega) (by omega)), i2.frm F (fun i _ => lo _ (by omega) (by omega)), i3.frm F (fun i _ => lo _ (by omega) (by omega)), i4.frm F (lo _ (by omega) (by omega)) (lo _ (by omega) (by omega)), i5.frm F (fun x hx => hi' _ (i5.far hx).1), i6.frm F (fun i _ => lo _ (by omega) (by omega)), i7.frm F (fun i _ => lo _ (by omega) (by omega)), i8.frm F (fun i _ => lo _ (by omega) (by omega)), i9.frm F (lo _ (by omega) (by omega)), i10.frm F (lo _ (by omega) (by omega)) ?_ i1.1, i11.frm F (fun x hx => hi' _ (i11.far hx).1), i12, i13⟩
  rcases i10.1 with q | q
  · exact lo _ (by omega) (by omega)
  · exact hi' _ q
theorem fr_cW {W : Nat → Prop} (F : fr W h h1) (hw : ∀ x, W x → cW x) : fr cW h h1 := F.mono hw
end INVC
