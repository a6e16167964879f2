/-! snapshots, on both sides -/
section SNAP
variable {B : Nat} {q : Nat → PC} {h h1 h2 : PH} {g g' gs : GS} {K : Nat → GS} {c n : Nat} {sn : Option GS} {d1 d2 d3 : Int32} {t : CS} {l : Nat → Int32} {e e1 : CS} {v5 : Int32}
theorem z_ups (n : Nat) (f : Nat → PC) (a : Nat) (x : PC) : ((n, z_up f a x) : PH).2 a = x := z_up_s f a x
theorem zoc_n {α β : Type} (n : β) (f : α → β) : zoc none n f = n := rfl
theorem zoc_s {α β : Type} (n : β) (f : α → β) (a : α) : zoc (some a) n f = f a := rfl
theorem IC.save (I : IC B h g K c sn d1 d2 d3 t l n) : ∃ h1, f_X9_saveSnapshot h 86 = some (w (gN g), h1) ∧ IC B h1 g K c (some g) d1 d2 d3 t l n ∧ fr cW h h1 := by
  obtain ⟨N, R, so, b, s2, f, u, z, i1, i2, i3, i4, i5, i6, i7, i8, i9, i10, i11, i12, i13⟩ := I
  cases so with
  | none =>
    obtain ⟨p1, fa, e1, S1, -, l1, o1⟩ := init_ok (h := h) (by have := i1.1; show 86 ≤ h.1; omega)
    have F1 : fr (fun _ => False) h p1 := ⟨by omega, fun x hx _ => o1 x hx⟩
    have q1 := i1.frm F1 (fun z => z)
    have hl : 140 < h.1 := i1.1
    have ew : wr p1 86 11 8 (.ref h.1) = some (p1.1, z_up p1.2 86 (.inr (11, obF (some h.1)))) := wr_of (fs := obF none) (by decide) q1.2 (show 8 < 9 by decide)
    have F2 : fr (fun x => x = 86) p1 (p1.1, z_up p1.2 86 (.inr (11, obF (some h.1)))) := fr.up rfl
    have O2 : ObC (p1.1, z_up p1.2 86 (.inr (11, obF (some h.1)))) (some h.1) := ⟨q1.1, by exact z_up_s p1.2 86 _⟩
    generalize (p1.1, z_up p1.2 86 (.inr (11, obF (some h.1)))) = p2 at *
    have S2 := S1.frm F2 (fun i hi => by omega)
    have H2 := (i2.frm F1 (fun _ _ z => z)).frm F2 (fun i hi => by omega)
    obtain ⟨p3, e3, H3, F3⟩ := Sg.copy S2 H2 (fun i hi k hk => by omega)
    have no3 : ∀ x, x < h.1 → ¬ stW h.1 x := fun x hx y => by have := y.1; omega
    have l2 := F2.1
    have K2 : ∀ {P : Nat → Prop}, (∀ x, P x → x < h.1) → ∀ x, P x → ¬ stW h.1 x := fun hP x hx => no3 x (hP x hx)
    have O3 := O2.frm F3 (no3 _ (by omega))
    have H3g : Sg B p3 87 g := H2.frm F3 (fun i hi => no3 _ (by omega))
    have r8 : rdR p2 86 11 8 = some h.1 := rdR_of O2.2 rfl
    refine ⟨p3, ?_, ⟨N, R, some h.1, b, s2, f, u, z, O3, H3g, ((i3.frm F1 (fun _ _ z => z)).frm F2 (fun i hi => by omega)).frm F3 (fun i hi => no3 _ (by omega)), ((i4.frm F1 (fun z => z) (fun z => z)).frm F2 (by omega) (by omega)).frm F3 (no3 _ (by omega)) (no3 _ (by omega)), ((i5.frm F1 (fun _ _ z => z)).frm F2 (fun x hx => by have := (i5.far hx).1; omega)).frm F3 (fun x hx => no3 _ (i5.far hx).2), ((i6.frm F1 (fun _ _ z => z)).frm F2 (fun i hi => by omega)).frm F3 (fun i hi => no3 _ (by omega)), ((i7.frm F1 (fun _ _ z => z)).frm F2 (fun i hi => by omega)).frm F3 (fun i hi => no3 _ (by omega)), ((i8.frm F1 (fun _ _ z => z)).frm F2 (fun i hi => by omega)).frm F3 (fun i hi => no3 _ (by omega)), ((i9.frm F1 (fun z => z)).frm F2 (by omega)).frm F3 (no3 _ (by omega)), ((i10.frm F1 (fun z => z) (fun z => z) hl).frm F2 (by omega) (by rcases i10.1 with y | y <;> omega) q1.1).frm F3 (no3 _ (by omega)) (no3 _ i10.2.1) O2.1, Or.inr ⟨h.1, g, rfl, rfl, by omega, H3⟩, fun x hx => ⟨fun y => ?_, (i12 x hx).2⟩, fun x y => ?_⟩, ((F1.mono fun _ z => z.elim).trans (F2.mono fun x z => Or.inl (by omega))).trans (F3.mono fun x z => Or.inr (by have := z.1; omega))⟩
    · unfold f_X9_saveSnapshot
      rw [i1.o8, Option.bind_some]
      rw [zoc_n, e1, Option.bind_some, ew, Option.bind_some, r8, Option.bind_some, O2.r0, Option.bind_some, S2.gd, Option.bind_some, e3, Option.bind_some, O3.r0, Option.bind_some, H3g.i0, Option.bind_some]
    · obtain ⟨s, e, y⟩ := y
      have : h.1 = s := by simpa using e
      have := (i5.far hx).2
      have := y.1
      omega
    · obtain ⟨s, e, y⟩ := y
      have : h.1 = s := by simpa using e
      have := i10.2.1
      have := y.1
      omega
  | some s =>
    rcases i11 with ⟨w1, -⟩ | ⟨s', gs, w1, w2, w3, H⟩
    · exact absurd w1 (by simp)
    have ws : s = s' := by simpa using w1
    subst ws
    obtain ⟨st, S⟩ := H.st
    obtain ⟨p3, e3, H3, F3⟩ := Sg.copy S i2 (fun i hi k hk => by omega)
    have no3 : ∀ x, x ≤ 140 → ¬ stW s x := fun x hx y => by have := y.1; omega
    have O3 := i1.frm F3 (no3 _ (by omega))
    have H3g : Sg B p3 87 g := i2.frm F3 (fun i hi => no3 _ (by omega))
    have r8 : rdR h 86 11 8 = some s := rdR_of i1.2 rfl
    refine ⟨p3, ?_, ⟨N, R, some s, b, s2, f, u, z, O3, H3g, i3.frm F3 (fun i hi => no3 _ (by omega)), i4.frm F3 (no3 _ (by omega)) (no3 _ (by omega)), i5.frm F3 (fun x hx y => (i12 x hx).1 ⟨s, rfl, y⟩), i6.frm F3 (fun i hi => no3 _ (by omega)), i7.frm F3 (fun i hi => no3 _ (by omega)), i8.frm F3 (fun i hi => no3 _ (by omega)), i9.frm F3 (no3 _ (by omega)), i10.frm F3 (no3 _ (by omega)) (fun y => i13 b ⟨s, rfl, y⟩ rfl) i1.1, Or.inr ⟨s, g, rfl, rfl, w3, H3⟩, i12, i13⟩, F3.mono fun x z => Or.inr (by have := z.1; omega)⟩
    unfold f_X9_saveSnapshot
    rw [i1.o8, Option.bind_some]
    rw [zoc_s]
    simp only [r8, Option.bind_some, i1.r0, S.gd, e3, O3.r0, H3g.i0]
theorem case_56 (V : Inv B q h) : ∃ h1, f_L_case56 h 0 86 131 139 140 v5 = some h1 ∧ Inv B q h1 := by
  obtain ⟨C, OL, OD, g, K, c, sn, d1, d2, d3, t, l, n, e, I, M, T⟩ := V
  have T9 := T
  obtain ⟨rfl, -⟩ := T9
  have O := I.ok
  obtain ⟨hc, ec, Ic, Fc⟩ := I.save
  have M1 := moc_cW M Fc
  obtain ⟨p2, e2, M2, F2⟩ := M1.w8 0
  obtain ⟨p3, e3, M3, F3⟩ := M2.w4 1
  obtain ⟨f3, e4, K3, R3⟩ := copies_ok (a0 := 0) (on := 0) M3.c0 M3.c2 (by omega) (by decide) (by omega) (by omega) (by decide) (by decide)
  have M4 := M3.row2 f3
  have F4 : fr (mW 131) p3 (p3.1, z_up p3.2 (131 + 3) (.inl (.int, 99, .inl f3))) := fr.up ⟨by omega, by omega⟩
  have e4' : f_X10_copies p3 (131 + 1) (0 : Int32) (131 + 3) (0 : Int32) = some (p3.1, z_up p3.2 (131 + 3) (.inl (.int, 99, .inl f3))) := e4
  generalize (p3.1, z_up p3.2 (131 + 3) (.inl (.int, 99, .inl f3))) = h2 at *
  have n0 : alI .int h2 (131 + 1) (0 : Int32) = some (w (gN (e 0))) := (M4.a0 (k := 0) (by decide)).trans (congrArg some O.g0)
  refine ⟨h2, ?_, invA C OL OD Fc Ic ((F2.trans F3).trans F4) M4 ?_⟩
  · unfold f_L_case56 f_X10_saveSnapshot
    simp only [I.gd, ec, Option.bind_some, M1.gd, e2, e3, M3.r0, M3.r2, e4', M4.r0, n0]
    first | exact if_pos rfl | exact if_pos trivial
  · obtain ⟨a1', a2', a3', a4', a5', a6', a7', a8', a9'⟩ := T
    exact ⟨rfl, a2', a3', Or.inr ⟨e 0, rfl, rfl, fun k hk => by
      have := K3 k hk
      rw [Nat.zero_add] at this
      exact this⟩, a5', a6', a7', a8', a9'⟩
theorem IC.restore (I : IC B h g K c sn d1 d2 d3 t l n) (hs : sn = some gs) : ∃ h1, f_X9_restoreSnapshot h 86 = some (Sum.inr (w (gN gs)), h1) ∧ fr cW h h1 ∧ ∀ g', (∀ k, k < 99 → g' k = gs k) → IC B h1 g' K 0 sn d1 d2 d3 t l n := by
  obtain ⟨N, R, so, b, s2, f, u, z, i1, i2, i3, i4, i5, i6, i7, i8, i9, i10, i11, i12, i13⟩ := I
  have i11' := i11
  rcases i11 with ⟨-, w1⟩ | ⟨s, gs', w1, w2, w3, H⟩
  · rw [hs] at w1; exact absurd w1 (by simp)
  have wg : gs' = gs := by rw [hs] at w2; exact (Option.some.inj w2).symm
  subst wg
  obtain ⟨st, S⟩ := i2.st
  obtain ⟨p1, e1, H1, F1⟩ := Sg.copy S H (fun i hi k hk => by omega)
  have no : ∀ x, (x < 87 ∨ 97 < x) → ¬ stW 87 x := fun x hx y => by have := y.1; have := y.2; omega
  have Hi1 := i4.frm F1 (no _ (by omega)) (no _ (by omega))
  have G1 := i5.frm F1 (fun x hx => no _ (by have := (i5.far hx).1; omega))
  obtain ⟨p2, e2, Hi2, G2, F2⟩ := forget_ok Hi1 G1 (by omega)
  have O1 := i1.frm F1 (no _ (by omega))
  have O2 := O1.frm F2 (by omega)
  have H2 := H1.frm F2 (fun i hi => by omega)
  refine ⟨p2, ?_, (F1.mono fun x y => Or.inl (by have := y.1; have := y.2; omega)).trans (F2.mono fun x y => Or.inl (by omega)), fun g' hg => ⟨N, R, so, b, s2, f, u, z, O2, H2.ext hg, (i3.frm F1 (fun i hi => no _ (by omega))).frm F2 (fun i hi => by omega), Hi2, G2, (i6.frm F1 (fun i hi => no _ (by omega))).frm F2 (fun i hi => by omega), (i7.frm F1 (fun i hi => no _ (by omega))).frm F2 (fun i hi => by omega), (i8.frm F1 (fun i hi => no _ (by omega))).frm F2 (fun i hi => by omega), (i9.frm F1 (no _ (by omega))).frm F2 (by omega), (i10.frm F1 (no _ (by omega)) (no _ (by rcases i10.1 with y | y <;> omega)) i1.1).frm F2 (by omega) (by rcases i10.1 with y | y <;> omega) O1.1, (i11'.frm F1 (fun x hx => no _ (by have := (i11'.far hx).1; omega))).frm F2 (fun x hx => by have := (i11'.far hx).1; omega), i12, i13⟩⟩
  subst w1
  have r8 : rdR h 86 11 8 = some s := rdR_of i1.2 rfl
  unfold f_X9_restoreSnapshot
  rw [i1.o8, Option.bind_some]
  rw [zoc_s]
  simp only [i1.r0, Option.bind_some, r8, S.gd, e1, O1.r2, hiG Hi1, e2, O2.r0, H2.i0]
theorem case_57 (V : Inv B q h) : ∃ h1, f_L_case57 h 0 86 131 139 140 v5 = some h1 ∧ Inv B q h1 := by
  obtain ⟨C, OL, OD, g, K, c, sn, d1, d2, d3, t, l, n, e, I, M, T⟩ := V
  have T9 := T
  obtain ⟨rfl, -, -, t4, -⟩ := T9
  obtain ⟨so, Ob⟩ := I.ob
  have O := I.ok
  rcases t4 with ⟨rfl, t4⟩ | ⟨gs, rfl, t4, t2⟩
  · have E : f_X9_restoreSnapshot h 86 = some (Sum.inl "java/lang/IllegalStateException", h) := by
      obtain ⟨N, R, so, b, s2, f, u, z, i1, i2, i3, i4, i5, i6, i7, i8, i9, i10, i11, i12, i13⟩ := I
      rcases i11 with ⟨w1, -⟩ | ⟨s, gs', w1, w2, w3, H⟩
      · subst w1
        unfold f_X9_restoreSnapshot
        rw [i1.o8, Option.bind_some]
        rfl
      · exact absurd w2 (by simp)
    have L := LW.thr (q := q) (code := 1) (by decide) C OL OD I M 0
    obtain ⟨h2, e2, M2, F2⟩ := mfail1 M
    have tc : f_X10_thrown h2 131 = some 1 := thrown_of M2
    have EW : f_L_restoreSnapshot h 86 139 = some (1, h) := by
      unfold f_L_restoreSnapshot
      simp only [E, Option.bind_some, Ob.gd, Sum.elim_inl]
      simp
    refine ⟨h2, ?_, Inv.of L F2 M2 (T.eF 1)⟩
    unfold f_L_case57 f_X10_restoreSnapshot f_X10_restoreSnapshot_J13
    simp only [EW, Option.bind_some, M.i4, t4, if_true, M.gd, e2, if_neg (show ¬ (true = false) by decide), M2.gd, tc]
    first | exact law_if (b := 0) L F2 (fun z => absurd z (by decide)) | exact (if_pos trivial).trans (law_x (b := 0) L F2 (fun z => absurd z (by decide)))
  · obtain ⟨hc, E, Fc, U⟩ := I.restore rfl
    have Mc := moc_cW M Fc
    obtain ⟨h1, W, L0⟩ := LW.val (C.cW Fc) (OL.frm Fc (no_cW (by omega) (by omega))) (OD.frm Fc (no_cW (by omega) (by omega))) (U gs fun k _ => rfl) Mc (w (gN gs)).toInt64
    have M1 := L0.2.2.2.2.2
    obtain ⟨p2, e2, M2, F2⟩ := mfail0 M1
    obtain ⟨f3, e3, K3, R3⟩ := copies_ok (a0 := 0) (on := 0) M2.c2 M2.c0 (by omega) (by decide) (by omega) (by omega) (by decide) (by decide)
    have M3 := M2.row0 f3
    have F3 : fr (mW 131) p2 (p2.1, z_up p2.2 (131 + 1) (.inl (.int, 99, .inl f3))) := fr.up ⟨by omega, by omega⟩
    have e3' : f_X10_copies p2 (131 + 3) (0 : Int32) (131 + 1) (0 : Int32) = some (p2.1, z_up p2.2 (131 + 1) (.inl (.int, 99, .inl f3))) := e3
    generalize (p2.1, z_up p2.2 (131 + 1) (.inl (.int, 99, .inl f3))) = p3 at *
    obtain ⟨h2, e4, M4, F4⟩ := M3.w5 0
    have hg : ∀ k, k < 99 → f3 k = gs k := fun k hk => by
      have := K3 k hk
      rw [Nat.zero_add] at this
      rw [this]
      exact t2 k hk
    have Og : Ok B f3 := (U f3 hg).ok
    have en : gN f3 = gN gs := by unfold gN; rw [hg 0 (by decide)]
    have n0 : alI .int h2 (131 + 1) (0 : Int32) = some (w (gN gs)) := by
      have := M4.a0 (k := 0) (by decide)
      rw [← en]
      exact this.trans (congrArg some Og.g0)
    have tc : f_X10_thrown h2 131 = some 0 := thrown_of M4
    have t4' : ¬ (1 : Int32) = 0 := by decide
    have EM : f_X10_restoreSnapshot h1 131 = some (w (gN gs), h2) := by
      unfold f_X10_restoreSnapshot f_X10_restoreSnapshot_J13
      simp only [Option.bind_some, M1.i4, t4, if_neg t4', M1.gd, e2, if_true, M2.r2, M2.r0, e3', e4, M4.r0, n0]
    have EW : f_L_restoreSnapshot h 86 139 = some (0, h1) := by
      unfold f_L_restoreSnapshot
      simp only [Option.bind_some, Ob.gd, E, Sum.elim_inr, W]
    have FF : fr (mW 131) h1 h2 := (F2.trans F3).trans F4
    have F1 : fr (fun x => x = 139) hc h1 := by
      obtain ⟨h1', W', -, F1'⟩ := (OL.frm Fc (no_cW (by omega) (by omega))).put (w (gN gs)).toInt64
      rw [W] at W'
      cases W'
      exact F1'
    have L : LW B q h1 e 0 (w (gN gs)).toInt64 f3 K 0 (some gs) d1 d2 d3 t l n := ⟨L0.1, L0.2.1, L0.2.2.1, L0.2.2.2.1, (U f3 hg).frm F1 (fun x z => by rcases z with z | z <;> omega), L0.2.2.2.2.2⟩
    refine ⟨h2, ?_, Inv.of L FF M4 ?_⟩
    · unfold f_L_case57
      simp only [EW, Option.bind_some, M1.gd, EM, M4.gd, tc]
      first | exact law_if L FF (fun _ => rfl) | exact (if_pos trivial).trans (law_x L FF (fun _ => rfl))
    · obtain ⟨a1', a2', a3', a4', a5', a6', a7', a8', a9'⟩ := T
      exact ⟨rfl, ⟨by omega, rfl, fun i hi => absurd hi (Nat.not_lt_zero i)⟩, a3', a4', a5', a6', a7', a8', a9'⟩
end SNAP
