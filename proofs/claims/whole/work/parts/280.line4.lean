/-! THE LINE written by the reference; the law's cases of lines -/
section LINE4
variable {B : Nat} {q : Nat → PC} {h h1 h2 : PH} {n c v i k j m N d : Nat} {l sc : Nat → Int32} {P : (Nat → Int32) × Nat} {g : GS} {e e1 : CS} {x : Int32}
/-- the reference's line is P, all else as in e -/
def MLn (h : PH) (m : Nat) (e : CS) (P : (Nat → Int32) × Nat) : Prop := ∃ e1, MoC h m e1 ∧ e1 16 0 = w P.2 ∧ (∀ i, i < P.2 → e1 15 i = P.1 i) ∧ ∀ j, j ≠ 15 → j ≠ 16 → e1 j = e j
theorem mwr_ok (M : MLn h m e P) (hc : c < 128) (hn : P.2 < 60) : ∃ h1, f_X10_writes h m (w c) = some h1 ∧ MLn h1 m e (aC P c) ∧ fr (mW m) h h1 := by
  obtain ⟨e1, M1, a1, a2, a3⟩ := M
  obtain ⟨x1, d1, M2, F2⟩ := M1.s15 (k := P.2) (w c) hn
  obtain ⟨x2, d2, M3, F3⟩ := M2.w16 (w (P.2 + 1))
  have i1 : rdI h m 12 16 = some (w P.2) := M1.i16.trans (congrArg some a1)
  have i2 : rdI x1 m 12 16 = some (w P.2) := M2.i16.trans (congrArg some a1)
  refine ⟨x2, ?_, ⟨_, M3, rfl, fun i hi => ?_, fun j h15 h16 => ?_⟩, F2.trans F3⟩
  · unfold f_X10_writes
    simp only [M1.r15, i1, by_z2c c hc, d1, i2, w_succ, d2, Option.bind_some]
  · show upd (e1 15) P.2 (vp_nar .char (w c)) i = upd P.1 P.2 (w c) i
    rw [by_narc c hc]
    have hi : i < P.2 + 1 := hi
    unfold upd
    by_cases z : i = P.2
    · rw [if_pos z, if_pos z]
    · rw [if_neg z, if_neg z]; exact a2 i (by omega)
  · unfold setR
    rw [if_neg h16, if_neg h15]
    exact a3 j h15 h16
theorem MLn.gd (M : MLn h m e P) : gd h m 12 = some () := by
  obtain ⟨e1, M1, -⟩ := M
  exact M1.gd
theorem mwn_ok (M : MLn h m e P) (hv : v < 100) (hn : P.2 + 2 ≤ 60) : ∃ h1, f_X10_writesNumber (d + 2) h m (w v) = some h1 ∧ MLn h1 m e (aN P v) ∧ fr (mW m) h h1 := by
  have e9 : (w v ≤ (9 : Int32)) = (v ≤ 9) := propext (w_le (b := 9) (by omega) (by decide))
  have er : (48 : Int32) + zrem (w v) (10 : Int32) = w (48 + v % 10) := by
    have : zrem (w v) (10 : Int32) = w (v % 10) := w_rem (b := 10) (by omega) (by decide)
    rw [this]; exact w_add 48 _
  by_cases c1 : v ≤ 9
  · obtain ⟨x1, d1, M1, F1⟩ := mwr_ok (c := 48 + v) M (by omega) (by omega)
    have em : v % 10 = v := by omega
    refine ⟨x1, ?_, ?_, F1⟩
    · show f_X10_writesNumber_B (f_X10_writesNumber (d + 1)) h m (w v) = some x1
      unfold f_X10_writesNumber_B
      simp only [e9, if_pos c1, M.gd, er, em, d1, Option.bind_some]
    · have : aN P v = aC P (48 + v) := by
        unfold aN aC apN szN
        rw [if_pos c1, if_pos c1]
      rw [this]; exact M1
  · obtain ⟨x1, d1, M1, F1⟩ := mwr_ok (c := 48 + v / 10) M (by omega) (by omega)
    have n1 : (aC P (48 + v / 10)).2 = P.2 + 1 := rfl
    obtain ⟨x2, d2, M2, F2⟩ := mwr_ok (c := 48 + v % 10) M1 (by omega) (by omega)
    have ed : w v / (10 : Int32) = w (v / 10) := w_div (b := 10) (by omega) (by decide)
    have e92 : (w (v / 10) ≤ (9 : Int32)) = (v / 10 ≤ 9) := propext (w_le (b := 9) (by omega) (by decide))
    have er2 : (48 : Int32) + zrem (w (v / 10)) (10 : Int32) = w (48 + v / 10) := by
      have : zrem (w (v / 10)) (10 : Int32) = w (v / 10 % 10) := w_rem (b := 10) (by omega) (by decide)
      rw [this, show v / 10 % 10 = v / 10 by omega]; exact w_add 48 _
    have rc : f_X10_writesNumber (d + 1) h m (w (v / 10)) = some x1 := by
      show f_X10_writesNumber_B (f_X10_writesNumber d) h m (w (v / 10)) = some x1
      unfold f_X10_writesNumber_B
      simp only [e92, if_pos (show v / 10 ≤ 9 by omega), M.gd, er2, d1, Option.bind_some]
    refine ⟨x2, ?_, ?_, F1.trans F2⟩
    · show f_X10_writesNumber_B (f_X10_writesNumber (d + 1)) h m (w v) = some x2
      unfold f_X10_writesNumber_B
      simp only [e9, if_neg c1, M.gd, ed, rc, M1.gd, er, d2, Option.bind_some]
    · have : aN P v = aC (aC P (48 + v / 10)) (48 + v % 10) := by
        unfold aN aC apN szN
        rw [if_neg c1, if_neg c1]
      rw [this]; exact M2
theorem mwb_ok (M : MLn h m e P) (hc : c < 128) (hv : v < 100) (hn : P.2 + 3 ≤ 60) : ∃ h1, f_X10_writesBehind h m (w c) (w v) = some h1 ∧ MLn h1 m e (aN (aC P c) v) ∧ fr (mW m) h h1 := by
  obtain ⟨x1, d1, M1, F1⟩ := mwr_ok M hc (by omega)
  have n1 : (aC P c).2 = P.2 + 1 := rfl
  obtain ⟨x2, d2, M2, F2⟩ := mwn_ok (d := 10) M1 hv (by omega)
  refine ⟨x2, ?_, M2, F1.trans F2⟩
  unfold f_X10_writesBehind
  have d2' : f_X10_writesNumber 12 x1 m (w v) = some x2 := d2
  simp only [M.gd, d1, M1.gd, d2', Option.bind_some]
theorem MLn.mg (M : MLn h m e P) (O : Ok B (e 0)) : Mg B h m (e 0) := by
  obtain ⟨e1, M1, -, -, a3⟩ := M
  exact ⟨O, e1, M1, a3 0 (by decide) (by decide)⟩
/-- the reference writes a note -/
theorem mwrite_ok (O : Ok B (e 0)) (M : MoC h 131 e) (hk : k < gN (e 0)) : ∃ h1, f_X10_writeNote h 131 (w k) = some (w (ltl (e 0) k (gN (e 0)) (lhd (e 0) k (l, 0))).2, h1) ∧ MLn h1 131 (eF e 0) (ltl (e 0) k (gN (e 0)) (lhd (e 0) k (l, 0))) ∧ fr (mW 131) h h1 := by
  have hn := O.n
  have hp := (O.note hk).2.1
  have ht := (O.note hk).2.2.2.2.1
  have hh := (O.note hk).2.2.2.2.2.2.1
  have s1 := szN_lo (v := k) (by omega)
  have s2 := szN_le (gP (e 0) k)
  have s3 := szN_le (gT (e 0) k)
  have O0 : Ok B (eF e 0 0) := by rw [eF_row e 0 (by decide) (by decide)]; exact O
  have r0 : eF e 0 0 = e 0 := eF_row e 0 (by decide) (by decide)
  obtain ⟨x0, e0, M0, F0⟩ := misNone0 O M ((isN_iff (g := e 0) (by omega)).mpr ⟨k, hk, rfl⟩)
  obtain ⟨x1, e1, M1, F1⟩ := M0.w16 0
  have L1 : MLn x1 131 (eF e 0) ((l, 0) : (Nat → Int32) × Nat) := ⟨_, M1, rfl, fun i hi => absurd hi (Nat.not_lt_zero i), fun j _ h16 => if_neg h16⟩
  obtain ⟨x2, e2, L2, F2⟩ := mwn_ok (d := 10) L1 (v := k) (by omega) (by show 0 + 2 ≤ 60; omega)
  have n2 : (aN (l, 0) k).2 = 1 := by show 0 + szN k = 1; omega
  have G2 := L2.mg O0
  rw [r0] at G2
  obtain ⟨x3, e3, L3, F3⟩ := mwb_ok L2 (c := 112) (v := gP (e 0) k) (by decide) (by omega) (by omega)
  have n3 : (aN (aC (aN (l, 0) k) 112) (gP (e 0) k)).2 ≤ 4 := by show (aN (l, 0) k).2 + 1 + szN _ ≤ 4; omega
  have G3 := L3.mg O0
  rw [r0] at G3
  obtain ⟨x4, e4, L4, F4⟩ := mwb_ok L3 (c := 119) (v := gT (e 0) k) (by decide) (by omega) (by omega)
  have n4 : (aN (aC (aN (aC (aN (l, 0) k) 112) (gP (e 0) k)) 119) (gT (e 0) k)).2 ≤ 7 := by show (aN (aC (aN (l, 0) k) 112) (gP (e 0) k)).2 + 1 + szN _ ≤ 7; omega
  have G4 := L4.mg O0
  rw [r0] at G4
  obtain ⟨x5, e5, L5, F5⟩ := mwr_ok L4 (wcn_lt (gH (e 0) k)) (by omega)
  have n5 : (lhd (e 0) k (l, 0)).2 ≤ 8 := by show (aN (aC (aN (aC (aN (l, 0) k) 112) (gP (e 0) k)) 119) (gT (e 0) k)).2 + 1 ≤ 8; omega
  rw [wcn_w] at e5
  have L5 : MLn x5 131 (eF e 0) (lhd (e 0) k (l, 0)) := L5
  obtain ⟨x6, e6, L6, F6⟩ := sloop0 (fun fu j (q : PH) => f_X10_writeNote_L55 fu q 131 (w k) (w j)) id (gN (e 0)) (fun j q => MLn q 131 (eF e 0) (ltl (e 0) k j (lhd (e 0) k (l, 0))) ∧ fr (mW 131) x5 q) (by omega) (fun fu j q hj hI => by
    obtain ⟨Lq, Fq⟩ := hI
    have Gq := Lq.mg O0
    rw [r0] at Gq
    have le := ltl_le (e 0) k (lhd (e 0) k (l, 0)) j (by omega)
    by_cases c1 : (gU (e 0) k).testBit j = true
    · obtain ⟨y2, d2, I2, F2⟩ := mwb_ok Lq (c := 62) (v := j) (by decide) (by omega) (by omega)
      have d2' : f_X10_writesBehind q 131 (62 : Int32) (w j) = some y2 := d2
      refine ⟨y2, ?_, ?_, Fq.trans F2⟩
      · show f_X10_writeNote_L55 (fu + 1) q 131 (w k) (w j) = f_X10_writeNote_L55 fu y2 131 (w k) (w (j + 1))
        simp only [f_X10_writeNote_L55, Gq.r0, Gq.n0, Option.bind_some, if_neg (is_lt hj (by omega)), Gq.gd, mciting Gq hk hj, c1, if_neg (show ¬ (true = false) by decide), d2', w_succ]
      · have : ltl (e 0) k (j + 1) (lhd (e 0) k (l, 0)) = aN (aC (ltl (e 0) k j (lhd (e 0) k (l, 0))) 62) j := if_pos c1
        rw [this]; exact I2
    · refine ⟨q, ?_, ?_, Fq⟩
      · show f_X10_writeNote_L55 (fu + 1) q 131 (w k) (w j) = f_X10_writeNote_L55 fu q 131 (w k) (w (j + 1))
        simp only [f_X10_writeNote_L55, Gq.r0, Gq.n0, Option.bind_some, if_neg (is_lt hj (by omega)), Gq.gd, mciting Gq hk hj, w_succ]
        rw [if_pos (by simpa using c1)]
      · have : ltl (e 0) k (j + 1) (lhd (e 0) k (l, 0)) = ltl (e 0) k j (lhd (e 0) k (l, 0)) := if_neg c1
        rw [this]; exact Lq) (fun fu q hI => by
    have Gq := hI.1.mg O0
    rw [r0] at Gq
    show f_X10_writeNote_L55 (fu + 1) q 131 (w k) (w (gN (e 0))) = some q
    simp only [f_X10_writeNote_L55, Gq.r0, Gq.n0, Option.bind_some, if_pos is_ge]) (k := 0) (s := x5) (Nat.zero_le _) ⟨L5, fr.refl _ _⟩
  have e6' : f_X10_writeNote_L55 FV x5 131 (w k) (0 : Int32) = some x6 := e6
  have e2' : f_X10_writesNumber 12 x1 131 (w k) = some x2 := e2
  have e3' : f_X10_writesBehind x2 131 (112 : Int32) (w (gP (e 0) k)) = some x3 := e3
  have e4' : f_X10_writesBehind x3 131 (119 : Int32) (w (gT (e 0) k)) = some x4 := e4
  have i16 : rdI x6 131 12 16 = some (w (ltl (e 0) k (gN (e 0)) (lhd (e 0) k (l, 0))).2) := by
    obtain ⟨ee, M6, a1, -⟩ := L6
    exact M6.i16.trans (congrArg some a1)
  refine ⟨x6, ?_, L6, (((((F0.trans F1).trans F2).trans F3).trans F4).trans F5).trans F6⟩
  unfold f_X10_writeNote
  simp only [M.gd, e0, Option.bind_some, if_true, e1, L1.gd, e2', L2.gd, G2.of0 hk, e3', L3.gd, G3.of1 hk, e4', L4.gd, sg_ok G4 hk, e5, e6', i16]
theorem IC.lnU {K : Nat → GS} {sn : Option GS} {d1 d2 d3 : Int32} {t : CS} {c : Nat} (I : IC B h g K c sn d1 d2 d3 t l n) : ∃ b, LnC h b l n ∧ ∀ h1 l1 n1, LnS h b h1 l1 n1 → IC B h1 g K c sn d1 d2 d3 t l1 n1 ∧ fr cW h h1 := by
  obtain ⟨N, R, so, b, s2, f, u, z, i1, i2, i3, i4, i5, i6, i7, i8, i9, i10, i11, i12, i13⟩ := I
  refine ⟨b, i10, fun h1 l1 n1 S => ?_⟩
  have hb := i10.1
  obtain ⟨b1, L1, F, B1, -⟩ := S
  have no : ∀ x, x ≠ 129 → x ≠ b → ¬ (x = 129 ∨ x = b) := fun x h1 h2 z => by rcases z with z | z; exact h1 z; exact h2 z
  refine ⟨⟨N, R, so, b1, s2, f, u, z, i1.frm F (by omega), i2.frm F (fun i hi => by omega), i3.frm F (fun i hi => by omega), i4.frm F (by omega) (by omega), i5.frm F (fun x hx => no _ (by have := (i5.far hx).1; omega) (i12 x hx).2), i6.frm F (fun i hi => by omega), i7.frm F (fun i hi => by omega), i8.frm F (fun i hi => by omega), i9.frm F (by omega), L1, i11.frm F (fun x hx => no _ (by have := (i11.far hx).1; omega) (i13 x hx)), fun x hx => ⟨(i12 x hx).1, ?_⟩, fun x hx => ?_⟩, F.mono fun x z => ?_⟩
  · rcases B1 with y | y
    · rw [y]; exact (i12 x hx).2
    · have := (i5.far hx).2; omega
  · rcases B1 with y | y
    · rw [y]; exact i13 x hx
    · have := (i11.far hx).2; omega
  · rcases z with z | z
    · exact Or.inl (by omega)
    · rcases hb with y | y
      · exact Or.inl (by omega)
      · exact Or.inr (by omega)
theorem case_49 (V : Inv B q h) (hq : q 0 = .inl (.int, N, .inl sc)) (hN : N ≤ 2048) (hD : DgC (0, q)) (hi : i + 4 ≤ N) : ∃ h1, f_L_case49 h 0 86 131 139 140 (w i) = some h1 ∧ Inv B q h1 := by
  obtain ⟨C, OL, OD, g, K, c, sn, d1, d2, d3, t, l, n, e, I, M, T⟩ := V
  have T9 := T
  obtain ⟨rfl, -⟩ := T9
  obtain ⟨so, Ob⟩ := I.ob
  have S := I.sg
  have O := I.ok
  have hn := O.n
  have a1 : ∀ {p : PH}, Cst q p → alI .int p 0 (w i + (1 : Int32)) = some (sc (i + 1)) := fun C1 => scr_at C1 hq hN (j := 1) (by omega)
  generalize sc (i + 1) = x at a1
  by_cases c0 : isN (e 0) x = true
  · obtain ⟨k, hk, rfl⟩ := (isN_iff (g := e 0) (by omega)).mp c0
    have D : DgC h := by
      obtain ⟨fo, ft, p1, p2, p3⟩ := hD
      exact ⟨fo, ft, (C.2 84 (by decide)).trans p1, (C.2 85 (by decide)).trans p2, p3⟩
    obtain ⟨b, L9, U⟩ := I.lnU
    obtain ⟨hc, E, SL⟩ := write_ok L9 Ob S D hk
    obtain ⟨Ic, Fc⟩ := U hc _ _ SL
    obtain ⟨h1, W, L⟩ := LW.val (C.cW Fc) (OL.frm Fc (no_cW (by omega) (by omega))) (OD.frm Fc (no_cW (by omega) (by omega))) Ic (moc_cW M Fc) (w (ltl (e 0) k (gN (e 0)) (lhd (e 0) k (l, 0))).2).toInt64
    have M1 := L.2.2.2.2.2
    obtain ⟨h2, e2, ML, F2⟩ := mwrite_ok (l := l) O M1 hk
    obtain ⟨ee, M2, m1, m2, m3⟩ := ML
    have tc : f_X10_thrown h2 131 = some 0 := (thrown_of M2).trans (congrArg some (congrFun (m3 8 (by decide) (by decide)) 0))
    have EW : f_L_writeNote h 86 (w k) 139 = some (0, h1) := by
      unfold f_L_writeNote
      simp only [Option.bind_some, Ob.gd, E, Sum.elim_inr, W]
    refine ⟨h2, ?_, Inv.of L F2 M2 ?_⟩
    · unfold f_L_case49
      simp only [a1 C, EW, Option.bind_some, a1 L.1, M1.gd, e2, M2.gd, tc]
      first | exact law_if L F2 (fun _ => rfl) | exact (if_pos trivial).trans (law_x L F2 (fun _ => rfl))
    · have T2 := T.eF 0
      obtain ⟨a1', a2', a3', a4', a5', a6', a7', a8', a9'⟩ := T2
      unfold Tie Kp at *
      rw [m3 0 (by decide) (by decide), m3 1 (by decide) (by decide), m3 2 (by decide) (by decide), m3 4 (by decide) (by decide), m3 5 (by decide) (by decide), m3 6 (by decide) (by decide), m3 9 (by decide) (by decide), m3 10 (by decide) (by decide), m3 11 (by decide) (by decide), m3 12 (by decide) (by decide), m3 13 (by decide) (by decide), m3 14 (by decide) (by decide)]
      exact ⟨a1', a2', a3', a4', a5', a6', a7', m1, m2⟩
  · have c0 : isN (e 0) x = false := by simpa using c0
    have E : f_X9_writeNote h 86 x = some (Sum.inl "java/util/NoSuchElementException", h) := by
      unfold f_X9_writeNote
      simp only [Option.bind_some, Ob.gd, needNote0 Ob S c0, Sum.elim_inl]
    have L := LW.thr (q := q) (code := 1) (by decide) C OL OD I M 0
    obtain ⟨h2, e2, M2, F2⟩ := misNone1 O M c0
    have tc : f_X10_thrown h2 131 = some 1 := thrown_of M2
    have EW : f_L_writeNote h 86 x 139 = some (1, h) := by
      unfold f_L_writeNote
      simp only [E, Option.bind_some, Ob.gd, Sum.elim_inl]
      simp
    refine ⟨h2, ?_, Inv.of L F2 M2 (T.eF 1)⟩
    unfold f_L_case49 f_X10_writeNote
    simp only [a1 C, EW, Option.bind_some, M.gd, e2, if_neg (show ¬ (true = false) by decide), M2.gd, tc]
    first | exact law_if (b := 0) L F2 (fun z => absurd z (by decide)) | exact (if_pos trivial).trans (law_x (b := 0) L F2 (fun z => absurd z (by decide)))
/-- one character of the line -/
theorem case_50 (V : Inv B q h) (hq : q 0 = .inl (.int, N, .inl sc)) (hN : N ≤ 2048) (hi : i + 4 ≤ N) : ∃ h1, f_L_case50 h 0 86 131 139 140 (w i) = some h1 ∧ Inv B q h1 := by
  obtain ⟨C, OL, OD, g, K, c, sn, d1, d2, d3, t, l, n, e, I, M, T⟩ := V
  obtain ⟨so, Ob⟩ := I.ob
  obtain ⟨b, LL⟩ := I.ln
  obtain ⟨p1, p2, p3, mb, cap, f, p4, p5, p6, p7, p8, p9⟩ := LL
  have t16 := T.2.2.2.2.2.2.2.1
  have t15 := T.2.2.2.2.2.2.2.2
  have a1 : ∀ {p : PH}, Cst q p → alI .int p 0 (w i + (1 : Int32)) = some (sc (i + 1)) := fun C1 => scr_at C1 hq hN (j := 1) (by omega)
  generalize sc (i + 1) = x at a1
  have g1 : gd h 129 1 = some () := gd_of p4
  have i3 : rdI h 129 1 3 = some (w n) := rdI_of p4 rfl
  have i1 : rdI h 129 1 1 = some 0 := rdI_of p4 rfl
  have r0 : rdR h 129 1 0 = some b := rdR_of p4 rfl
  have al : alA .byte h b = some (w cap) := alA_of p5
  have hin : f_X10_in x (0 : Int32) (w n - (1 : Int32)) = (!(decide (x < 0)) && !(decide (w n ≤ x))) := by
    unfold f_X10_in
    by_cases z : x < 0
    · rw [if_pos z]; simp [z]
    · rw [if_neg z]
      simp only [pred_lt (show n < 2147483648 by omega)]
      by_cases y : w n ≤ x
      · rw [if_pos y]; simp [y]
      · rw [if_neg y]; simp [z, y]
  by_cases c0 : x < 0
  · have hf : f_X10_in x (0 : Int32) (w n - (1 : Int32)) = false := by rw [hin]; simp [c0]
    have E : f_X9_lineCharacter h 86 x = some (Sum.inl "java/lang/IndexOutOfBoundsException") := by
      unfold f_X9_lineCharacter
      rw [if_pos c0]
    have L := LW.thr (q := q) (code := 1) (by decide) C OL OD I M 0
    obtain ⟨h2, e2, M2, F2⟩ := mfail1 M
    have tc : f_X10_thrown h2 131 = some 1 := thrown_of M2
    have EW : f_L_lineCharacter h 86 x 139 = some (1, h) := by
      unfold f_L_lineCharacter
      simp only [E, Option.bind_some, Ob.gd, Sum.elim_inl]
      simp
    refine ⟨h2, ?_, Inv.of L F2 M2 (T.eF 1)⟩
    unfold f_L_case50 f_X10_lineCharacter
    simp only [a1 C, EW, Option.bind_some, M.i16, t16, hf, if_true, M.gd, e2, if_neg (show ¬ (true = false) by decide), M2.gd, tc]
    first | exact law_if (b := 0) L F2 (fun z => absurd z (by decide)) | exact (if_pos trivial).trans (law_x (b := 0) L F2 (fun z => absurd z (by decide)))
  · by_cases c1 : w n ≤ x
    · have hf : f_X10_in x (0 : Int32) (w n - (1 : Int32)) = false := by rw [hin]; simp [c1]
      have lt : ¬ x < w n := Int32.not_lt.mpr c1
      have E : f_X9_lineCharacter h 86 x = some (Sum.inl "java/lang/IndexOutOfBoundsException") := by
        unfold f_X9_lineCharacter f_J4_length_8abf5 f_J5_length_8abf5
        rw [if_neg c0]
        simp only [Option.bind_some, Ob.r7, g1, i3, if_neg lt]
      have L := LW.thr (q := q) (code := 1) (by decide) C OL OD I M 0
      obtain ⟨h2, e2, M2, F2⟩ := mfail1 M
      have tc : f_X10_thrown h2 131 = some 1 := thrown_of M2
      have EW : f_L_lineCharacter h 86 x 139 = some (1, h) := by
        unfold f_L_lineCharacter
        simp only [E, Option.bind_some, Ob.gd, Sum.elim_inl]
        simp
      refine ⟨h2, ?_, Inv.of L F2 M2 (T.eF 1)⟩
      unfold f_L_case50 f_X10_lineCharacter
      simp only [a1 C, EW, Option.bind_some, M.i16, t16, hf, if_true, M.gd, e2, if_neg (show ¬ (true = false) by decide), M2.gd, tc]
      first | exact law_if (b := 0) L F2 (fun z => absurd z (by decide)) | exact (if_pos trivial).trans (law_x (b := 0) L F2 (fun z => absurd z (by decide)))
    · have ht : f_X10_in x (0 : Int32) (w n - (1 : Int32)) = true := by rw [hin]; simp [c0, c1]
      obtain ⟨k, hk, rfl⟩ := below_of (n := n) (by omega) c0 c1
      obtain ⟨z, z1, z2⟩ := p8 k (by omega)
      have lk := p9 k hk
      rw [z2] at lk
      have lt : w k < w n := (w_lt (by omega) (by omega)).mpr hk
      have mn : f_J9_min_7cf53 (w n) (w cap) = w n := by
        rw [min_ww (by omega) (by omega), Nat.min_eq_left p6]
      have ck : f_J0_checkIndex_df160 (w k) (w n) = some () := by
        unfold f_J0_checkIndex_df160
        rw [if_neg c0, if_pos lt]
      have ab : alI .byte h b (w k) = some (w z) := by
        rw [alI_of p5 (by omega) (by omega), z2]
      have t0 : ¬ ¬ (0 : Int32) = 0 := fun z => z rfl
      have E : f_X9_lineCharacter h 86 (w k) = some (Sum.inr (w z)) := by
        unfold f_X9_lineCharacter f_J4_length_8abf5 f_J5_length_8abf5 f_J4_charAt_5068e f_J5_charAt_5068e
        rw [if_neg c0]
        simp only [Option.bind_some, Ob.r7, g1, i3, if_pos lt, i1, r0, al, sh0, mn, ck, if_neg t0, ab, by_zn z z1, by_zn2 z z1]
        rw [if_neg (fun z => z trivial)]
        simp only [Option.bind_some, by_zn z z1, by_zn2 z z1]
      obtain ⟨h1, W, L⟩ := LW.val C OL OD I M (w z).toInt64
      have M1 := L.2.2.2.2.2
      obtain ⟨h2, e2, M2, F2⟩ := mfail0 M1
      have a15 : alI .char h2 (131 + 6) (w k) = some (w z) := by
        have := M2.a15 (k := k) (by omega)
        rw [eF_row e 0 (by decide) (by decide), t15 k hk, ← lk] at this
        exact this
      have tc : f_X10_thrown h2 131 = some 0 := thrown_of M2
      have EW : f_L_lineCharacter h 86 (w k) 139 = some (0, h1) := by
        unfold f_L_lineCharacter
        simp only [Option.bind_some, Ob.gd, E, Sum.elim_inr, W]
      refine ⟨h2, ?_, Inv.of L F2 M2 (T.eF 0)⟩
      unfold f_L_case50 f_X10_lineCharacter
      simp only [a1 C, EW, Option.bind_some, a1 L.1, M1.gd, M1.i16, t16, ht, if_neg (show ¬ (true = false) by decide), e2, if_true, M2.r15, a15, by_zn2 z z1, M2.gd, tc]
      first | exact law_if L F2 (fun _ => rfl) | exact (if_pos trivial).trans (law_x L F2 (fun _ => rfl))
end LINE4
