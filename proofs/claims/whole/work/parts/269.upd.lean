/-! the class's pieces, one by one: taken out, and put back changed -/
section UPD
variable {B B' : Nat} {q : Nat → PC} {h h1 h2 hc : PH} {g g1 gs : GS} {K : Nat → GS} {c n : Nat} {sn : Option GS} {d1 d2 d3 : Int32} {t : CS} {l : Nat → Int32} {e e1 e2 : CS}
theorem IC.ob (I : IC B h g K c sn d1 d2 d3 t l n) : ∃ so, ObC h so := by
  obtain ⟨N, R, so, b, s2, f, u, z, i1, -⟩ := I
  exact ⟨so, i1⟩
theorem IC.sg (I : IC B h g K c sn d1 d2 d3 t l n) : Sg B h 87 g := by
  obtain ⟨N, R, so, b, s2, f, u, z, i1, i2, -⟩ := I
  exact i2
theorem IC.hi (I : IC B h g K c sn d1 d2 d3 t l n) : ∃ N R, HiC h 109 N c R := by
  obtain ⟨N, R, so, b, s2, f, u, z, i1, i2, i3, i4, -⟩ := I
  exact ⟨N, R, i4⟩
theorem IC.lt (I : IC B h g K c sn d1 d2 d3 t l n) : LtC h 128 d1 d2 d3 := by
  obtain ⟨N, R, so, b, s2, f, u, z, i1, i2, i3, i4, i5, i6, i7, i8, i9, -⟩ := I
  exact i9
theorem IC.tx (I : IC B h g K c sn d1 d2 d3 t l n) : TxC h 121 t := by
  obtain ⟨N, R, so, b, s2, f, u, z, i1, i2, i3, i4, i5, i6, i7, i8, -⟩ := I
  exact i8
theorem IC.ln (I : IC B h g K c sn d1 d2 d3 t l n) : ∃ b, LnC h b l n := by
  obtain ⟨N, R, so, b, s2, f, u, z, i1, i2, i3, i4, i5, i6, i7, i8, i9, i10, -⟩ := I
  exact ⟨b, i10⟩
/-- the scratch of citations -/
theorem IC.ciU (I : IC B h g K c sn d1 d2 d3 t l n) : ∃ z, CiC h 114 z ∧ ∀ h1 z1, CiC h1 114 z1 → fr (ciW 114) h h1 → IC B h1 g K c sn d1 d2 d3 t l n ∧ fr cW h h1 := by
  obtain ⟨N, R, so, b, s2, f, u, z, i1, i2, i3, i4, i5, i6, i7, i8, i9, i10, i11, i12, i13⟩ := I
  refine ⟨z, i7, fun h1 z1 Z F => ?_⟩
  have no : ∀ x, (x < 114 ∨ 120 < x) → ¬ ciW 114 x := fun x hx y => by have := y.1; have := y.2; omega
  refine ⟨⟨N, R, so, b, s2, f, u, z1, i1.frm F (no _ (by omega)), i2.frm F (fun i hi => no _ (by omega)), i3.frm F (fun i hi => no _ (by omega)), i4.frm F (no _ (by omega)) (no _ (by omega)), i5.frm F (fun x hx => no _ (by have := (i5.far hx).1; omega)), i6.frm F (fun i hi => no _ (by omega)), Z, i8.frm F (fun i hi => no _ (by omega)), i9.frm F (no _ (by omega)), i10.frm F (no _ (by omega)) (no _ (by rcases i10.1 with y | y <;> omega)) i1.1, i11.frm F (fun x hx => no _ (by have := (i11.far hx).1; omega)), i12, i13⟩, F.mono fun x y => Or.inl (by have := y.1; have := y.2; omega)⟩
/-- the scratch of landings -/
theorem IC.laU (I : IC B h g K c sn d1 d2 d3 t l n) : ∃ f u, LaC h 111 f u ∧ ∀ h1 f1 u1, LaC h1 111 f1 u1 → fr (laW 111) h h1 → IC B h1 g K c sn d1 d2 d3 t l n ∧ fr cW h h1 := by
  obtain ⟨N, R, so, b, s2, f, u, z, i1, i2, i3, i4, i5, i6, i7, i8, i9, i10, i11, i12, i13⟩ := I
  refine ⟨f, u, i6, fun h1 f1 u1 Z F => ?_⟩
  have no : ∀ x, (x < 111 ∨ 113 < x) → ¬ laW 111 x := fun x hx y => by have := y.1; have := y.2; omega
  refine ⟨⟨N, R, so, b, s2, f1, u1, z, i1.frm F (no _ (by omega)), i2.frm F (fun i hi => no _ (by omega)), i3.frm F (fun i hi => no _ (by omega)), i4.frm F (no _ (by omega)) (no _ (by omega)), i5.frm F (fun x hx => no _ (by have := (i5.far hx).1; omega)), Z, i7.frm F (fun i hi => no _ (by omega)), i8.frm F (fun i hi => no _ (by omega)), i9.frm F (no _ (by omega)), i10.frm F (no _ (by omega)) (no _ (by rcases i10.1 with y | y <;> omega)) i1.1, i11.frm F (fun x hx => no _ (by have := (i11.far hx).1; omega)), i12, i13⟩, F.mono fun x y => Or.inl (by have := y.1; have := y.2; omega)⟩
/-- the text -/
theorem IC.txU (I : IC B h g K c sn d1 d2 d3 t l n) {t1 : CS} (Z : TxC h1 121 t1) (F : fr (txW 121) h h1) : IC B h1 g K c sn d1 d2 d3 t1 l n ∧ fr cW h h1 := by
  obtain ⟨N, R, so, b, s2, f, u, z, i1, i2, i3, i4, i5, i6, i7, i8, i9, i10, i11, i12, i13⟩ := I
  have no : ∀ x, (x < 121 ∨ 127 < x) → ¬ txW 121 x := fun x hx y => by have := y.1; have := y.2; omega
  refine ⟨⟨N, R, so, b, s2, f, u, z, i1.frm F (no _ (by omega)), i2.frm F (fun i hi => no _ (by omega)), i3.frm F (fun i hi => no _ (by omega)), i4.frm F (no _ (by omega)) (no _ (by omega)), i5.frm F (fun x hx => no _ (by have := (i5.far hx).1; omega)), i6.frm F (fun i hi => no _ (by omega)), i7.frm F (fun i hi => no _ (by omega)), Z, i9.frm F (no _ (by omega)), i10.frm F (no _ (by omega)) (no _ (by rcases i10.1 with y | y <;> omega)) i1.1, i11.frm F (fun x hx => no _ (by have := (i11.far hx).1; omega)), i12, i13⟩, F.mono fun x y => Or.inl (by have := y.1; have := y.2; omega)⟩
theorem mcode0 (O : Ok B (e 0)) (M : MoC h 131 e) : ∃ h1, wr h 131 12 8 (.int (0 : Int32)) = some h1 ∧ MoC h1 131 (setR e 8 fun _ => 0) ∧ fr (mW 131) h h1 ∧ Mg B h1 131 (e 0) := by
  obtain ⟨h1, e1, M1, F1⟩ := M.w8 0
  exact ⟨h1, e1, M1, F1, O, _, M1, rfl⟩
theorem invA (C : Cst q h) (OL : OutL h) (OD : OutD h) (Fc : fr cW h hc) (Ic : IC B hc g K c sn d1 d2 d3 t l n) (F : fr (mW 131) hc h2) (M2 : MoC h2 131 e2) (T2 : Tie e2 g K c sn d1 d2 d3 t l n) : Inv B q h2 := ⟨(C.cW Fc).mW F, (OL.frm Fc (no_cW (by omega) (by omega))).frm F (no_mW (by omega)), (OD.frm Fc (no_cW (by omega) (by omega))).frm F (no_mW (by omega)), g, K, c, sn, d1, d2, d3, t, l, n, e2, Ic.mW F, M2, T2⟩
theorem ci_no {i : Nat} (hi : i ≤ 10) : ¬ ciW 114 (87 + i) := fun y => by have := y.1; have := y.2; omega
theorem la_no {i : Nat} (hi : i ≤ 10) : ¬ laW 111 (87 + i) := fun y => by have := y.1; have := y.2; omega
end UPD
