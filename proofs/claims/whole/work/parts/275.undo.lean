/-! what counts of a row lies below 99 -/
section EXT
variable {B : Nat} {g g' : GS} {h : PH} {a : Nat} {s : CS}
theorem Ok.ext (O : Ok B g) (E : ∀ k, k < 99 → g' k = g k) : Ok B g' := by
  have hn := O.n
  have hm := O.m
  refine O.keep (E 0 (by decide)) (E 1 (by decide)) (E 2 (by decide)) (by rw [E 3 (by decide)]; exact O.li) (fun i hi => (O.note hi).same (by unfold gN; rw [E 0 (by decide)]; exact Nat.le_refl _) (fun j hj => E _ (by omega))) (fun p hp => (O.page hp).same (E _ (by omega)) (E _ (by omega)) (E _ (by omega))) (fun i hi => (O.net hi).same (fun j hj => E _ (by omega))) ?_
  rw [E 6 (by decide), O.g6]
  congr 1
  exact cn_ext fun i hi => by unfold gH; rw [E _ (by omega)]
theorem Rel.ext (R : Rel s g) (O : Ok B g) (E : ∀ k, k < 99 → g' k = g k) : Rel s g' := by
  have hn := O.n
  have hm := O.m
  obtain ⟨r1, r2, r3, r4, r5, r6, r7, r8, r9, r10⟩ := R
  have en : gN g' = gN g := by unfold gN; rw [E 0 (by decide)]
  have em : gM g' = gM g := by unfold gM; rw [E 1 (by decide)]
  refine ⟨by rw [E 0 (by decide)]; exact r1, by rw [E 1 (by decide)]; exact r2, by rw [E 2 (by decide)]; exact r3, by rw [E 3 (by decide)]; exact r4, by rw [E 4 (by decide)]; exact r5, by rw [E 5 (by decide)]; exact r6, by rw [E 7 (by decide)]; exact r7, fun k hk => ?_, fun p hp => ?_, fun k hk => ?_⟩
  · rw [en] at hk
    have eh : gH g' k = gH g k := by unfold gH; rw [E _ (by omega)]
    rw [E (44 + 4 * k) (by omega), E (45 + 4 * k) (by omega), E (47 + 4 * k) (by omega), eh]
    exact r8 k hk
  · rw [E (8 + p) (by omega), E (20 + p) (by omega), E (32 + p) (by omega)]
    exact r9 p hp
  · rw [em] at hk
    rw [E (84 + 3 * k) (by omega), E (85 + 3 * k) (by omega), E (86 + 3 * k) (by omega)]
    exact r10 k hk
theorem Sg.ext (H : Sg B h a g) (E : ∀ k, k < 99 → g' k = g k) : Sg B h a g' := ⟨H.1.ext E, H.2.choose, H.2.choose_spec.1, H.2.choose_spec.2.ext H.1 E⟩
end EXT
/-! undoing, on both sides -/
section UNDO
variable {B : Nat} {q : Nat → PC} {h h1 h2 : PH} {g g' gs : GS} {K : Nat → GS} {c n : Nat} {sn : Option GS} {d1 d2 d3 : Int32} {t : CS} {l : Nat → Int32} {e e1 : CS} {v5 : Int32}
theorem IC.undo (I : IC B h g K c sn d1 d2 d3 t l n) (hc : 0 < c) : ∃ h1, f_X4_takeBack h 109 87 = some h1 ∧ fr cW h h1 ∧ (∃ N R, HiC h1 109 N (c - 1) R) ∧ ∀ g', (∀ k, k < 99 → g' k = K (c - 1) k) → IC B h1 g' K (c - 1) sn d1 d2 d3 t l n := by
  obtain ⟨N, R, so, b, s2, f, u, z, i1, i2, i3, i4, i5, i6, i7, i8, i9, i10, i11, i12, i13⟩ := I
  obtain ⟨h1, e1, S1, Hi1, G1, F⟩ := takeBack_ok i4 i5 i2 hc (by omega) (by omega) (fun i hi => by omega)
  have no : ∀ x, (x < 87 ∨ (97 < x ∧ x ≠ 109)) → ¬ (x = 109 ∨ stW 87 x) := fun x hx y => by
    rcases y with y | y
    · omega
    · have := y.1; have := y.2; omega
  refine ⟨h1, e1, F.mono (fun x y => ?_), ⟨_, R, Hi1⟩, fun g' hg => ⟨_, R, so, b, s2, f, u, z, i1.frm F (no _ (by omega)), S1.ext hg, i3.frm F (fun i hi => no _ (by omega)), Hi1, G1, i6.frm F (fun i hi => no _ (by omega)), i7.frm F (fun i hi => no _ (by omega)), i8.frm F (fun i hi => no _ (by omega)), i9.frm F (no _ (by omega)), i10.frm F (no _ (by omega)) (no _ (by rcases i10.1 with y | y <;> omega)) i1.1, i11.frm F (fun x hx => no _ (by have := (i11.far hx).1; omega)), i12, i13⟩⟩
  rcases y with y | y
  · exact Or.inl (by omega)
  · exact Or.inl (by have := y.1; have := y.2; omega)
theorem case_54 (V : Inv B q h) : ∃ h1, f_L_case54 h 0 86 131 139 140 v5 = some h1 ∧ Inv B q h1 := by
  obtain ⟨C, OL, OD, g, K, c, sn, d1, d2, d3, t, l, n, e, I, M, T⟩ := V
  have T9 := T
  obtain ⟨rfl, ⟨c8, t5, tK⟩, -⟩ := T9
  obtain ⟨so, Ob⟩ := I.ob
  obtain ⟨N, R, Hi⟩ := I.hi
  have O := I.ok
  have ec : (w c = (0 : Int32)) = (c = 0) := propext (w_inj (b := 0) (by omega) (by decide))
  by_cases c0 : c = 0
  · have nn : ¬ ¬ c = 0 := fun z => z c0
    have E : f_X9_undo h 86 = some (Sum.inl "java/lang/IllegalStateException", h) := by
      unfold f_X9_undo
      simp only [Option.bind_some, Ob.r2, Hi.i2, ec, if_neg nn]
    have L := LW.thr (q := q) (code := 1) (by decide) C OL OD I M 0
    obtain ⟨h2, e2, M2, F2⟩ := mfail1 M
    have tc : f_X10_thrown h2 131 = some 1 := thrown_of M2
    have EW : f_L_undo h 86 139 = some (1, h) := by
      unfold f_L_undo
      simp only [E, Option.bind_some, Ob.gd, Sum.elim_inl]
      simp
    refine ⟨h2, ?_, Inv.of L F2 M2 (T.eF 1)⟩
    unfold f_L_case54 f_X10_undo f_X10_undo_J13
    simp only [EW, Option.bind_some, M.i5, t5, ec, if_neg nn, M.gd, e2, if_neg (show ¬ (true = false) by decide), M2.gd, tc]
    first | exact law_if (b := 0) L F2 (fun z => absurd z (by decide)) | exact (if_pos trivial).trans (law_x (b := 0) L F2 (fun z => absurd z (by decide)))
  · obtain ⟨hc, ek, Fc, ⟨N1, R1, Hi1⟩, U⟩ := I.undo (by omega)
    have el : w c - (1 : Int32) = w (c - 1) := w_sub (b := 1) (by omega)
    have E : f_X9_undo h 86 = some (Sum.inr (w (c - 1)), hc) := by
      have I1 := U (K (c - 1)) (fun k _ => rfl)
      obtain ⟨so1, Ob1⟩ := I1.ob
      unfold f_X9_undo
      simp only [Option.bind_some, Ob.r2, Ob.r0, Hi.i2, ec, if_pos c0, hiG Hi, ek, Ob1.r2, Hi1.i2]
    -- the reference
    have Mc := moc_cW M Fc
    have I0 := U (K (c - 1)) (fun k _ => rfl)
    obtain ⟨h1, W, L0⟩ := LW.val (C.cW Fc) (OL.frm Fc (no_cW (by omega) (by omega))) (OD.frm Fc (no_cW (by omega) (by omega))) I0 Mc (w (c - 1)).toInt64
    have M1 := L0.2.2.2.2.2
    obtain ⟨p2, e2, M2, F2⟩ := mfail0 M1
    have j5 : rdI p2 131 12 5 = some (w c) := M2.i5.trans (congrArg some t5)
    obtain ⟨p3, e3, M3, F3⟩ := M2.w5 (w (c - 1))
    have j6 : rdI p3 131 12 5 = some (w (c - 1)) := M3.i5
    obtain ⟨f3, e4, K3, R3⟩ := copies_ok (a0 := 99 * (c - 1)) (on := 0) M3.c1 M3.c0 (by omega) (by decide) (by omega) (by omega) (by decide) (by decide)
    have M4 := M3.row0 f3
    have F4 : fr (mW 131) p3 (p3.1, z_up p3.2 (131 + 1) (.inl (.int, 99, .inl f3))) := fr.up ⟨by omega, by omega⟩
    have ei : (99 : Int32) * w (c - 1) = w (99 * (c - 1)) := w_mul 99 (c - 1)
    have e4' : f_X10_copies p3 (131 + 2) (w (99 * (c - 1))) (131 + 1) (0 : Int32) = some (p3.1, z_up p3.2 (131 + 1) (.inl (.int, 99, .inl f3))) := e4
    generalize (p3.1, z_up p3.2 (131 + 1) (.inl (.int, 99, .inl f3))) = h2 at *
    have j7 : rdI h2 131 12 5 = some (w (c - 1)) := M4.i5
    have tc : f_X10_thrown h2 131 = some 0 := thrown_of M4
    have EM : f_X10_undo h1 131 = some (w (c - 1), h2) := by
      unfold f_X10_undo f_X10_undo_J13
      simp only [Option.bind_some, M1.i5, t5, ec, if_pos c0, M1.gd, e2, if_true, j5, el, e3, M3.r1, j6, M3.r0, ei, e4', j7]
    have EW : f_L_undo h 86 139 = some (0, h1) := by
      unfold f_L_undo
      simp only [Option.bind_some, Ob.gd, E, Sum.elim_inr, W]
    have hg : ∀ k, k < 99 → f3 k = K (c - 1) k := fun k hk => by
      have := K3 k hk
      rw [Nat.zero_add] at this
      rw [this]
      exact tK (c - 1) (by omega) k hk
    have FF : fr (mW 131) h1 h2 := (F2.trans F3).trans F4
    have F1 : fr (fun x => x = 139) hc h1 := by
      obtain ⟨h1', W', -, F1'⟩ := (OL.frm Fc (no_cW (by omega) (by omega))).put (w (c - 1)).toInt64
      rw [W] at W'
      cases W'
      exact F1'
    have L : LW B q h1 e 0 (w (c - 1)).toInt64 f3 K (c - 1) sn d1 d2 d3 t l n := ⟨L0.1, L0.2.1, L0.2.2.1, L0.2.2.2.1, (U f3 hg).frm F1 (fun x z => by rcases z with z | z <;> omega), L0.2.2.2.2.2⟩
    refine ⟨h2, ?_, Inv.of L FF M4 ?_⟩
    · unfold f_L_case54
      simp only [EW, Option.bind_some, M1.gd, EM, M4.gd, tc]
      first | exact law_if L FF (fun _ => rfl) | exact (if_pos trivial).trans (law_x L FF (fun _ => rfl))
    · obtain ⟨a1', a2', a3', a4', a5', a6', a7', a8', a9'⟩ := T
      exact ⟨rfl, ⟨by omega, rfl, fun i hi => tK i (by omega)⟩, a3', a4', a5', a6', a7', a8', a9'⟩
end UNDO
