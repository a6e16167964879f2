/-! taking back; the latest denial: the class -/
section BACK
variable {B D0 : Nat} {g : GS} {h h1 q : PH} {a b y N c u k i j : Nat} {K : Nat → GS} {R : Nat → Option Nat}
theorem takeBack_ok (Hi : HiC h y N c R) (G : Rg B D0 h N c R K) (H : Sg B h a g) (hc : 0 < c) (ha : a + 10 < D0) (hy : y + 1 < D0) (hya : ∀ i, i ≤ 10 → a + i ≠ y ∧ a + i ≠ y + 1) : ∃ h1, f_X4_takeBack h y a = some h1 ∧ Sg B h1 a (K (c - 1)) ∧ HiC h1 y ((N + 7) % 8) (c - 1) R ∧ Rg B D0 h1 ((N + 7) % 8) (c - 1) R K ∧ fr (fun x => x = y ∨ stW a x) h h1 := by
  obtain ⟨g1, g2, g3, g4, g5⟩ := id G
  obtain ⟨d, d1, d2⟩ := g5 (c - 1) (by omega)
  have ei : (N + 8 - c + (c - 1)) % 8 = (N + 7) % 8 := by omega
  rw [ei] at d1
  have hj : (N + 7) % 8 < 8 := Nat.mod_lt _ (by decide)
  have d0 := (g3 _ hj d d1).1
  obtain ⟨s, S⟩ := H.st
  obtain ⟨x1, e1, H1, F1⟩ := Sg.copy S d2 (fun i hi k hk => by omega)
  have Hi1 := Hi.frm F1 (fun x => by
    have p := hya (y - a) (by have := x.1; have := x.2; omega)
    have := x.1
    omega) (fun x => by
    have p := hya (y + 1 - a) (by have := x.1; have := x.2; omega)
    have := x.1
    omega)
  obtain ⟨x2, e2, Hi2, F2⟩ := Hi1.w1 ((N + 7) % 8)
  obtain ⟨x3, e3, Hi3, F3⟩ := Hi2.w2 (c - 1)
  have FF : fr (fun x => x = y ∨ stW a x) h x3 := ((F1.mono fun _ z => Or.inr z).trans (F2.mono fun _ z => Or.inl z)).trans (F3.mono fun _ z => Or.inl z)
  have e8 : zrem ((w N + (8 : Int32)) - (1 : Int32)) (8 : Int32) = w ((N + 7) % 8) := by
    have a1 : (w N + (8 : Int32)) - (1 : Int32) = w (N + 7) := by
      have : w N + (8 : Int32) = w (N + 8) := w_add N 8
      rw [this]
      exact w_sub (a := N + 8) (b := 1) (by omega)
    rw [a1]; exact w_rem (by omega) (by decide)
  have al := Hi.al hj
  rw [d1] at al
  have c0 : ¬ w c ≤ 0 := fun z => by
    have := (w_le (a := c) (b := 0) (by omega) (by decide)).mp z
    omega
  have ec : w c - (1 : Int32) = w (c - 1) := w_sub (b := 1) (by omega)
  have i2 : rdI x2 y 7 2 = some (w c) := Hi2.i2
  have Gw := G.frm FF (fun x hx => by
    obtain ⟨j, hj, d, hd, hs⟩ := hx
    have d0 := (g3 j hj d hd).1
    have s1 := hs.1
    rintro (z | z)
    · omega
    · have := z.2; omega)
  refine ⟨x3, ?_, (H1.frm F2 (fun i hi => (hya i hi).1)).frm F3 (fun i hi => (hya i hi).1), Hi3, ⟨hj, by omega, Gw.2.2.1, Gw.2.2.2.1, fun i hi => ?_⟩, FF⟩
  · unfold f_X4_takeBack
    simp only [Hi.i1, Hi.r0, e8, al, Option.bind_some]
    show ((rdI h y 7 2).bind _) = _
    simp only [Hi.i2, Option.bind_some, if_neg c0, S.gd, e1, e2, i2, ec, e3]
  · obtain ⟨d', p1, p2⟩ := Gw.2.2.2.2 i (by omega)
    exact ⟨d', by rw [show ((N + 7) % 8 + 8 - (c - 1) + i) % 8 = (N + 8 - c + i) % 8 by omega]; exact p1, p2⟩
/-- the latest denial -/
def LtC (h : PH) (u : Nat) (x y z : Int32) : Prop := kK ≤ u ∧ u < h.1 ∧ h.2 u = .inr (5, [.int x, .int y, .int z])
variable {x0 y0 z0 : Int32}
theorem ltG (L : LtC h u x0 y0 z0) : gd h u 5 = some () := gd_of L.2.2
theorem LtC.i0 (L : LtC h u x0 y0 z0) : rdI h u 5 0 = some x0 := rdI_of L.2.2 rfl
theorem LtC.i1 (L : LtC h u x0 y0 z0) : rdI h u 5 1 = some y0 := rdI_of L.2.2 rfl
theorem LtC.i2 (L : LtC h u x0 y0 z0) : rdI h u 5 2 = some z0 := rdI_of L.2.2 rfl
theorem LtC.frm {W : Nat → Prop} (L : LtC h u x0 y0 z0) (F : fr W h h1) (hw : ¬ W u) : LtC h1 u x0 y0 z0 := ⟨L.1, Nat.lt_of_lt_of_le L.2.1 F.1, (F.2 u L.2.1 hw).trans L.2.2⟩
theorem LtC.w0 (L : LtC h u x0 y0 z0) (x : Int32) : ∃ h1, wr h u 5 0 (.int x) = some h1 ∧ LtC h1 u x y0 z0 ∧ fr (fun i => i = u) h h1 := ⟨(h.1, z_up h.2 u (.inr (5, [.int x, .int y0, .int z0]))), wr_of (fs := [.int x0, .int y0, .int z0]) L.1 L.2.2 (show 0 < 3 by decide), ⟨L.1, L.2.1, z_up_s _ _ _⟩, fr.up rfl⟩
theorem LtC.w1 (L : LtC h u x0 y0 z0) (x : Int32) : ∃ h1, wr h u 5 1 (.int x) = some h1 ∧ LtC h1 u x0 x z0 ∧ fr (fun i => i = u) h h1 := ⟨(h.1, z_up h.2 u (.inr (5, [.int x0, .int x, .int z0]))), wr_of (fs := [.int x0, .int y0, .int z0]) L.1 L.2.2 (show 1 < 3 by decide), ⟨L.1, L.2.1, z_up_s _ _ _⟩, fr.up rfl⟩
theorem LtC.w2 (L : LtC h u x0 y0 z0) (x : Int32) : ∃ h1, wr h u 5 2 (.int x) = some h1 ∧ LtC h1 u x0 y0 x ∧ fr (fun i => i = u) h h1 := ⟨(h.1, z_up h.2 u (.inr (5, [.int x0, .int y0, .int x]))), wr_of (fs := [.int x0, .int y0, .int z0]) L.1 L.2.2 (show 2 < 3 by decide), ⟨L.1, L.2.1, z_up_s _ _ _⟩, fr.up rfl⟩
theorem keep_ok (L : LtC h u x0 y0 z0) (x y z : Int32) : ∃ h1, f_X2_keep h u x y z = some h1 ∧ LtC h1 u x y z ∧ fr (fun i => i = u) h h1 := by
  obtain ⟨x1, e1, L1, F1⟩ := L.w0 x
  obtain ⟨x2, e2, L2, F2⟩ := L1.w1 y
  obtain ⟨x3, e3, L3, F3⟩ := L2.w2 z
  refine ⟨x3, ?_, L3, (F1.trans F2).trans F3⟩
  unfold f_X2_keep
  simp only [e1, e2, e3, Option.bind_some]
end BACK
