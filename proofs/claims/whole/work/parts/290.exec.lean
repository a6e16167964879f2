/-! EXECUTING, purely and by the class -/
section EXEC
variable {B B' : Nat} {h h0 h1 : PH} {g g0 gs : GS} {K : Nat → GS} {c n i k L : Nat} {sn : Option GS} {d1 d2 d3 x y z : Int32} {t t1 : CS} {l : Nat → Int32} {r pre : List (Nat × List Int32)}
/-- a run of commands: where it stopped, with which verdict (0: at the end), and the row then -/
noncomputable def xe : List (Nat × List Int32) → Nat → GS → Nat × Int32 × GS
  | [], i, g => (i, 0, g)
  | q :: r, i, g => if ju g q.1 (q.2.getD 0 0) (q.2.getD 1 0) (q.2.getD 2 0) = 0 then xe r (i + 1) (ef g q.1 (q.2.getD 0 0) (q.2.getD 1 0) (q.2.getD 2 0)) else (i, ju g q.1 (q.2.getD 0 0) (q.2.getD 1 0) (q.2.getD 2 0), g)
/-- any row that is right can lie on a heap: so what the reference shows of it holds -/
theorem JB.any (O : Ok B g) : JB g := by
  let e : CS := fun j => if j = 0 then g else fun _ => 0
  let h : PH := (1000, fun x => if x = 86 then .inr (12, moF 86 e) else if x = 87 then .inl (.int, 99, .inl (e 0)) else if x = 88 then .inl (.int, 792, .inl (e 1)) else if x = 89 then .inl (.int, 99, .inl (e 2)) else if x = 90 then .inl (.int, 99, .inl (e 3)) else if x = 91 then .inl (.int, 60, .inl (e 12)) else if x = 92 then .inl (.char, 60, .inl (e 15)) else .inl (.int, 124, .inl (e 18)))
  have M : MoC h 86 e := ⟨by decide, by show 86 + 7 < 1000; decide, rfl, rfl, rfl, rfl, rfl, rfl, rfl, rfl⟩
  exact JB.of (B := B) (h := h) (m := 86) ⟨O, e, M, rfl⟩
/-- a change done within an execution -/
theorem IC.perf (I : IC B h g K c sn d1 d2 d3 t l n) (Pr : Pri h) (hb : B + 40 < 1000000000) (hk : k ≤ 11) (q : ju g k x y z = 0) : ∃ h1, f_X1_perform h 87 111 (w k) x y z = some (an g k x y, h1) ∧ IC (B + 40) h1 (ef g k x y z) K c sn d1 d2 d3 t l n ∧ fr (fun x => stW 87 x ∨ laW 111 x) h h1 := by
  have J := JB.any I.ok
  obtain ⟨N, R, so, b, s2, f, u, ci, i1, i2, i3, i4, i5, i6, i7, i8, i9, i10, i11, i12, i13⟩ := I
  obtain ⟨p2, f2, e2, H2, L2, F2⟩ := perf_all i2 i6 J Pr hb hk q
  have no2 : ∀ x, (x < 87 ∨ (97 < x ∧ x < 111) ∨ 113 < x) → ¬ (stW 87 x ∨ laW 111 x) := fun x hx z => by
    rcases z with z | z
    · have z1 := z.1; have z2 := z.2; omega
    · have z1 := z.1; have z2 := z.2; omega
  exact ⟨p2, e2, ⟨N, R, so, b, s2, f2, u, ci, i1.frm F2 (no2 _ (by omega)), H2, i3.frm F2 (fun i hi => no2 _ (by omega)), i4.frm F2 (no2 _ (by omega)) (no2 _ (by omega)), (i5.frm F2 (fun x hx => no2 _ (by have := (i5.far hx).1; omega))).le (by omega) hb, L2, i7.frm F2 (fun i hi => no2 _ (by omega)), i8.frm F2 (fun i hi => no2 _ (by omega)), i9.frm F2 (no2 _ (by omega)), i10.frm F2 (no2 _ (by omega)) (no2 _ (by rcases i10.1 with y | y <;> omega)) i1.1, (i11.frm F2 (fun x hx => no2 _ (by have := (i11.far hx).1; omega))).le (by omega) hb, i12, i13⟩, F2⟩
/-- the state's copy laid aside -/
theorem IC.aside (I : IC B h g K c sn d1 d2 d3 t l n) : ∃ h1, f_X7_copyFrom h 98 87 = some h1 ∧ IC B h1 g K c sn d1 d2 d3 t l n ∧ Sg B h1 98 g ∧ fr (stW 98) h h1 := by
  obtain ⟨N, R, so, b, s2, f, u, ci, i1, i2, i3, i4, i5, i6, i7, i8, i9, i10, i11, i12, i13⟩ := I
  obtain ⟨p1, e1, S1, F1⟩ := Sg.copy i3 i2 (fun i hi k hk => by omega)
  have no : ∀ x, (x < 98 ∨ 108 < x) → ¬ stW 98 x := fun x hx z => by have z1 := z.1; have z2 := z.2; omega
  obtain ⟨s3, S3⟩ := S1.st
  exact ⟨p1, e1, ⟨N, R, so, b, s3, f, u, ci, i1.frm F1 (no _ (by omega)), i2.frm F1 (fun i hi => no _ (by omega)), S3, i4.frm F1 (no _ (by omega)) (no _ (by omega)), i5.frm F1 (fun x hx => no _ (by have := (i5.far hx).1; omega)), i6.frm F1 (fun i hi => no _ (by omega)), i7.frm F1 (fun i hi => no _ (by omega)), i8.frm F1 (fun i hi => no _ (by omega)), i9.frm F1 (no _ (by omega)), i10.frm F1 (no _ (by omega)) (no _ (by rcases i10.1 with y | y <;> omega)) i1.1, i11.frm F1 (fun x hx => no _ (by have := (i11.far hx).1; omega)), i12, i13⟩, S1, F1⟩
/-- the copy taken back -/
theorem IC.back (I : IC B h g K c sn d1 d2 d3 t l n) (S : Sg B h 98 g0) : ∃ h1, f_X7_copyFrom h 87 98 = some h1 ∧ IC B h1 g0 K c sn d1 d2 d3 t l n ∧ fr (stW 87) h h1 := by
  obtain ⟨N, R, so, b, s2, f, u, ci, i1, i2, i3, i4, i5, i6, i7, i8, i9, i10, i11, i12, i13⟩ := I
  obtain ⟨s0, S0⟩ := i2.st
  obtain ⟨p1, e1, S1, F1⟩ := Sg.copy S0 S (fun i hi k hk => by omega)
  have no : ∀ x, (x < 87 ∨ 97 < x) → ¬ stW 87 x := fun x hx z => by have z1 := z.1; have z2 := z.2; omega
  exact ⟨p1, e1, ⟨N, R, so, b, s2, f, u, ci, i1.frm F1 (no _ (by omega)), S1, i3.frm F1 (fun i hi => no _ (by omega)), i4.frm F1 (no _ (by omega)) (no _ (by omega)), i5.frm F1 (fun x hx => no _ (by have := (i5.far hx).1; omega)), i6.frm F1 (fun i hi => no _ (by omega)), i7.frm F1 (fun i hi => no _ (by omega)), i8.frm F1 (fun i hi => no _ (by omega)), i9.frm F1 (no _ (by omega)), i10.frm F1 (no _ (by omega)) (no _ (by rcases i10.1 with y | y <;> omega)) i1.1, i11.frm F1 (fun x hx => no _ (by have := (i11.far hx).1; omega)), i12, i13⟩, F1⟩
/-- the copy remembered -/
theorem IC.rem (I : IC B h g K c sn d1 d2 d3 t l n) (S : Sg B h 98 g0) : ∃ h1, f_X4_remember h 109 98 = some h1 ∧ IC B h1 g (Kn K c g0) (min (c + 1) 8) sn d1 d2 d3 t l n ∧ fr cW h h1 := by
  obtain ⟨N, R, so, b, s2, f, u, ci, i1, i2, i3, i4, i5, i6, i7, i8, i9, i10, i11, i12, i13⟩ := I
  obtain ⟨p1, R1, e1, H1, Hi1, G1, F1, N1⟩ := remember_ok i4 i5 S (by omega) (by omega) (fun i hi => by omega) (by have := i1.1; omega)
  have no1 : ∀ x, x ≤ 130 → x ≠ 109 → x ≠ 110 → ¬ (x = 109 ∨ x = 110 ∨ rgP R x) := fun x hx n1 n2 z => by
    rcases z with z | z | z
    · exact n1 z
    · exact n2 z
    · have := (i5.far z).1; omega
  refine ⟨p1, e1, ⟨_, R1, so, b, s2, f, u, ci, i1.frm F1 (no1 _ (by omega) (by omega) (by omega)), i2.frm F1 (fun i hi => no1 _ (by omega) (by omega) (by omega)), i3.frm F1 (fun i hi => no1 _ (by omega) (by omega) (by omega)), Hi1, G1, i6.frm F1 (fun i hi => no1 _ (by omega) (by omega) (by omega)), i7.frm F1 (fun i hi => no1 _ (by omega) (by omega) (by omega)), i8.frm F1 (fun i hi => no1 _ (by omega) (by omega) (by omega)), i9.frm F1 (no1 _ (by omega) (by omega) (by omega)), i10.frm F1 (no1 _ (by omega) (by omega) (by omega)) (fun z => ?_) i1.1, i11.frm F1 (fun x hx z => ?_), fun x hx => ?_, i13⟩, F1.mono fun x z => ?_⟩
  · rcases z with z | z | z
    · rcases i10.1 with y | y <;> omega
    · rcases i10.1 with y | y <;> omega
    · exact (i12 _ z).2 rfl
  · have f1 := (i11.far hx).1
    rcases z with z | z | z
    · omega
    · omega
    · exact (i12 _ z).1 hx
  · rcases N1 x hx with z | z
    · exact i12 x z
    · exact ⟨fun y => by have := (i11.far y).2; omega, by have := i10.2.1; omega⟩
  · rcases z with z | z | z
    · exact Or.inl (by omega)
    · exact Or.inl (by omega)
    · exact Or.inr (i5.far z).1
/-- one command of the text -/
theorem runC_ok (I : IC B h g K c sn d1 d2 d3 t l n) (Pr : Pri h) (hb : B + 40 < 1000000000) (hi : i < 15) (hk : k ≤ 11) (e4 : t 4 i = w k) (e5 : t 5 i = x) (e6 : t 6 i = y) (e7 : t 7 i = z) : (ju g k x y z = 0 ∧ ∃ h1, f_X9_runCommand h 86 (w i) = some (0, h1) ∧ IC (B + 40) h1 (ef g k x y z) K c sn d1 d2 d3 t l n ∧ fr (fun x => stW 87 x ∨ laW 111 x) h h1) ∨ (¬ ju g k x y z = 0 ∧ f_X9_runCommand h 86 (w i) = some (ju g k x y z, h)) := by
  obtain ⟨so, Ob⟩ := I.ob
  have TX := I.tx
  have S := I.sg
  have a4 : alI .int h (121 + 2) (w i) = some (w k) := (TX.a4 hi).trans (congrArg some e4)
  have a5 : alI .int h (121 + 3) (w i) = some x := (TX.a5 hi).trans (congrArg some e5)
  have a6 : alI .int h (121 + 4) (w i) = some y := (TX.a6 hi).trans (congrArg some e6)
  have a7 : alI .int h (121 + 5) (w i) = some z := (TX.a7 hi).trans (congrArg some e7)
  have jj := judge_all (x := x) (y := y) (z := z) S Pr hk
  by_cases q : ju g k x y z = 0
  · obtain ⟨h1, e1, I1, F1⟩ := I.perf Pr hb hk q
    refine Or.inl ⟨q, h1, ?_, I1, F1⟩
    have nn : ¬ ¬ ju g k x y z = 0 := fun z => z q
    unfold f_X9_runCommand
    simp only [Ob.r5, TX.r4, TX.r5, TX.r6, TX.r7, a4, a5, a6, a7, Ob.r0, Ob.r3, jj, if_neg nn, e1, Option.bind_some]
    rw [q]
  · refine Or.inr ⟨q, ?_⟩
    unfold f_X9_runCommand
    simp only [Ob.r5, TX.r4, TX.r5, TX.r6, TX.r7, a4, a5, a6, a7, Ob.r0, jj, if_pos q, Option.bind_some]
/-- how many days a run may take, at most -/
theorem exec_loop {q : Nat → PC} (hP : Pri (0, q)) (Cm1 : Cm t (pre ++ r)) (hk : ∀ p, p ∈ r → p.1 ≤ 11) : ∀ (r' : List (Nat × List Int32)) (i fu : Nat) (B : Nat) (g : GS) (h : PH), (∃ p1, pre ++ r = p1 ++ r' ∧ p1.length = i) → (∀ p, p ∈ r' → p.1 ≤ 11) → (pre ++ r).length ≤ 13 → r'.length < fu → B + 40 * r'.length < 1000000000 → Cst q h → IC B h g K c sn d1 d2 d3 t l n → Sg B h 98 g0 → ∃ h1, ((xe r' i g).2.1 = 0 ∧ f_X9_execute_L42 fu h 86 (w i) = some (Sum.inr h1) ∧ IC (B + 40 * r'.length) h1 (xe r' i g).2.2 K c sn d1 d2 d3 t l n ∧ Sg (B + 40 * r'.length) h1 98 g0 ∧ fr cW h h1) ∨ (¬ (xe r' i g).2.1 = 0 ∧ f_X9_execute_L42 fu h 86 (w i) = some (Sum.inl (Sum.inl "java/lang/UnsupportedOperationException", h1)) ∧ IC (B + 40 * r'.length) h1 g0 K c sn 9 (w (xe r' i g).1) (if 0 < (xe r' i g).2.1 then (xe r' i g).2.1 else 10) t l n ∧ fr cW h h1) := by
  intro r'
  induction r' with
  | nil =>
    intro i fu B g h hp _ hl hf hb C I S
    obtain ⟨p1, hp1, hp2⟩ := hp
    have el : (pre ++ r).length = i := by rw [hp1, List.append_nil, hp2]
    obtain ⟨so, Ob⟩ := I.ob
    have TX := I.tx
    have i3 : rdI h 121 10 3 = some (w i) := by rw [TX.i3, Cm1.1, el]
    cases fu with
    | zero => exact absurd hf (Nat.not_lt_zero _)
    | succ fu =>
      refine ⟨h, Or.inl ⟨rfl, ?_, I, S, fr.refl _ _⟩⟩
      simp only [f_X9_execute_L42, Ob.r5, i3, Option.bind_some, if_pos is_ge]
  | cons p r' ih =>
    intro i fu B g h hp hk' hl hf hb C I S
    obtain ⟨p1, hp1, hp2⟩ := hp
    have el : (pre ++ r).length = i + (r'.length + 1) := by rw [hp1, List.length_append, hp2, List.length_cons]
    have hi : i < (pre ++ r).length := by omega
    rw [List.length_cons] at hb hf
    obtain ⟨so, Ob⟩ := I.ob
    have TX := I.tx
    have i3 : rdI h 121 10 3 = some (w (pre ++ r).length) := by rw [TX.i3, Cm1.1]
    have nl : ¬ w (pre ++ r).length ≤ w i := by rw [w_le (by omega) (by omega)]; omega
    obtain ⟨c4, c5, c6, c7⟩ := Cm1.2 i hi
    have eg : (pre ++ r).getD i (0, []) = p := by
      rw [hp1, ← hp2]
      simp
    rw [eg] at c4 c5 c6 c7
    have hkp := hk' p List.mem_cons_self
    cases fu with
    | zero => exact absurd hf (Nat.not_lt_zero _)
    | succ fu =>
      rcases runC_ok I (C.pri hP) (by omega) (by omega) hkp c4 c5 c6 c7 with ⟨v, h1, e1, I1, F1⟩ | ⟨v, e1⟩
      · have exq : xe (p :: r') i g = xe r' (i + 1) (ef g p.1 (p.2.getD 0 0) (p.2.getD 1 0) (p.2.getD 2 0)) := if_pos v
        have S1 : Sg (B + 40) h1 98 g0 := (S.frm F1 (fun i hi z => by
          rcases z with z | z
          · have z1 := z.1; have z2 := z.2; omega
          · have z1 := z.1; have z2 := z.2; omega)).le (by omega) (by omega)
        have Fc : fr cW h h1 := F1.mono fun x z => by
          rcases z with z | z
          · exact Or.inl (by have z1 := z.1; have z2 := z.2; omega)
          · exact Or.inl (by have z1 := z.1; have z2 := z.2; omega)
        obtain ⟨h2, X⟩ := ih (i + 1) fu (B + 40) (ef g p.1 (p.2.getD 0 0) (p.2.getD 1 0) (p.2.getD 2 0)) h1 ⟨p1 ++ [p], by rw [hp1]; simp, by rw [List.length_append, hp2]; rfl⟩ (fun p hp => hk' p (List.mem_cons_of_mem _ hp)) hl (by omega) (by omega) (C.cW Fc) I1 S1
        have es : f_X9_execute_L42 (fu + 1) h 86 (w i) = f_X9_execute_L42 fu h1 86 (w (i + 1)) := by
          simp only [f_X9_execute_L42, Ob.r5, i3, if_neg nl, Ob.gd, e1, if_true, w_succ, Option.bind_some]
        have eB : B + 40 + 40 * r'.length = B + 40 * (p :: r').length := by rw [List.length_cons]; omega
        rw [exq, es, ← eB]
        refine ⟨h2, ?_⟩
        rcases X with ⟨x1, x2, x3, x4, x5⟩ | ⟨x1, x2, x3, x4⟩
        · exact Or.inl ⟨x1, x2, x3, x4, Fc.trans x5⟩
        · exact Or.inr ⟨x1, x2, x3, Fc.trans x4⟩
      · have exq : xe (p :: r') i g = (i, ju g p.1 (p.2.getD 0 0) (p.2.getD 1 0) (p.2.getD 2 0), g) := if_neg v
        rw [exq]
        obtain ⟨p2, e2, I2, F2⟩ := I.back S
        obtain ⟨so2, Ob2⟩ := I2.ob
        have lt2 := I2.lt
        have Fc : fr cW h p2 := F2.mono fun x z => Or.inl (by have z1 := z.1; have z2 := z.2; omega)
        by_cases c0 : ju g p.1 (p.2.getD 0 0) (p.2.getD 1 0) (p.2.getD 2 0) ≤ 0
        · obtain ⟨h1, e3, I3, F3⟩ := I2.keep 9 (w i) 10
          have ng : ¬ 0 < ju g p.1 (p.2.getD 0 0) (p.2.getD 1 0) (p.2.getD 2 0) := Int32.not_lt.mpr c0
          refine ⟨h1, Or.inr ⟨v, ?_, ?_, Fc.trans F3⟩⟩
          · simp only [f_X9_execute_L42, Ob.r5, i3, if_neg nl, Ob.gd, e1, if_neg v, Ob.r0, Ob.r1, I.sg.gd, e2, Ob2.r6, if_pos c0, ltG lt2, e3, Option.bind_some]
          · show IC _ h1 g0 K c sn 9 (w i) (if 0 < ju g p.1 (p.2.getD 0 0) (p.2.getD 1 0) (p.2.getD 2 0) then _ else 10) t l n
            rw [if_neg ng]
            exact I3.le (by omega) (by rw [List.length_cons]; omega)
        · obtain ⟨h1, e3, I3, F3⟩ := I2.keep 9 (w i) (ju g p.1 (p.2.getD 0 0) (p.2.getD 1 0) (p.2.getD 2 0))
          have pg : 0 < ju g p.1 (p.2.getD 0 0) (p.2.getD 1 0) (p.2.getD 2 0) := Int32.not_le.mp c0
          refine ⟨h1, Or.inr ⟨v, ?_, ?_, Fc.trans F3⟩⟩
          · simp only [f_X9_execute_L42, Ob.r5, i3, if_neg nl, Ob.gd, e1, if_neg v, Ob.r0, Ob.r1, I.sg.gd, e2, Ob2.r6, if_neg c0, ltG lt2, e3, Option.bind_some]
          · show IC _ h1 g0 K c sn 9 (w i) (if 0 < ju g p.1 (p.2.getD 0 0) (p.2.getD 1 0) (p.2.getD 2 0) then _ else 10) t l n
            rw [if_pos pg]
            exact I3.le (by omega) (by rw [List.length_cons]; omega)
end EXEC
