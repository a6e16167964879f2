/-! EXECUTING: the commands of a text; the reference's run of them -/
section MEXEC
variable {B B' : Nat} {h h0 h1 : PH} {g g0 gs : GS} {K : Nat → GS} {c n i k L a : Nat} {x y z : Int32} {e e1 : CS} {s u : Nat → Int32} {vs : List Int32} {l r pre : List (Nat × List Int32)}
/-- a State that shows a row -/
def shw (g : GS) : CS := fun j => if j = 0 then fun _ => g 0 else if j = 1 then fun k => g (44 + 4 * k) else if j = 2 then fun k => g (45 + 4 * k) else if j = 3 then fun k => wc (gH g k) else if j = 4 then fun k => g (47 + 4 * k) else if j = 5 then fun p => g (8 + p) else if j = 6 then fun p => g (20 + p) else if j = 7 then fun p => g (32 + p) else if j = 8 then fun _ => g 1 else if j = 9 then fun k => g (84 + 3 * k) else if j = 10 then fun k => g (85 + 3 * k) else if j = 11 then fun k => g (86 + 3 * k) else if j = 12 then fun _ => g 3 else if j = 13 then fun _ => g 2 else if j = 14 then fun _ => g 4 else if j = 15 then fun _ => g 5 else fun _ => g 7
theorem mP_cnt (h : (mP s L c a vs).1 = true) : (mP s L c a vs).2.2.length = vs.length + cv c := by
  revert h
  unfold mP cv
  by_cases c1 : c = 78
  · rw [if_pos c1, if_pos (Or.inl c1)]
    repeat' split
    all_goals simp
  · rw [if_neg c1]
    by_cases c2 : c = 68
    · rw [if_pos c2, if_pos (Or.inr (Or.inl c2))]
      repeat' split
      all_goals simp
    · rw [if_neg c2]
      by_cases c3 : c = 83
      · rw [if_pos c3, if_pos (Or.inr (Or.inr c3))]
        repeat' split
        all_goals simp
      · rw [if_neg c3, if_neg (show ¬ (c = 78 ∨ c = 68 ∨ c = 83) from fun q => by rcases q with q | q | q; exact c1 q; exact c2 q; exact c3 q)]
        repeat' split
        all_goals simp
theorem mT_cnt : ∀ (r : List Nat) (a : Nat) (vs : List Int32), (mT s L r a vs).1 = true → (mT s L r a vs).2.2.length = vs.length + cvs r := by
  intro r
  induction r with
  | nil => intro a vs _; rfl
  | cons c r ih =>
    intro a vs h
    have hvc : cvs (c :: r) = cv c + cvs r := rfl
    unfold mT at h ⊢
    by_cases z : (mP s L c a vs).1 = true
    · rw [if_pos z] at h ⊢
      have := ih _ _ h
      have := mP_cnt z
      omega
    · rw [if_neg z] at h
      exact absurd h z
/-- the commands of a text that matches -/
theorem pA_cmds : ∀ d a, a ≤ L → (pA s L d a).1 = true → a + 5 * (pA s L d a).2.2.length ≤ L + 1 ∧ ∀ p, p ∈ (pA s L d a).2.2 → p.1 ≤ 11 ∧ p.2.length = cvs (tp p.1) := by
  intro d
  induction d with
  | zero => intro a _ h; exact absurd h (by show ¬ false = true; decide)
  | succ d ih =>
    intro a ha h
    unfold pA at h ⊢
    by_cases x : (pC s L a).1 = true
    · rw [if_pos x] at h ⊢
      obtain ⟨q1, q2, q3, q4, q5⟩ := pC_yes ha x
      have lc : (pC s L a).2.2.2.length = cvs (tp (pC s L a).2.2.1) := by
        rw [q5, mT_cnt _ _ _ q4]
        exact Nat.zero_add _
      by_cases z : (pC s L a).2.1 = L
      · rw [if_pos z]
        refine ⟨by show a + 5 * 1 ≤ L + 1; omega, fun p hp => ?_⟩
        rw [List.mem_singleton.mp hp]
        exact ⟨by omega, lc⟩
      · rw [if_neg z] at h ⊢
        by_cases y : s (pC s L a).2.1 = 59
        · rw [if_pos y] at h ⊢
          obtain ⟨i1, i2⟩ := ih ((pC s L a).2.1 + 1) (by omega) h
          refine ⟨?_, fun p hp => ?_⟩
          · rw [List.length_cons]; omega
          · rcases List.mem_cons.mp hp with q | q
            · rw [q]; exact ⟨by omega, lc⟩
            · exact i2 p q
        · rw [if_neg y] at h
          exact absurd h (by show ¬ false = true; decide)
    · rw [if_neg x] at h
      exact absurd h (by show ¬ false = true; decide)
/-- what a change makes of a right row is right -/
theorem perfOk (O : Ok B g) (hb : B + 40 < 1000000000) (hk : k ≤ 11) (q : ju g k x y z = 0) : Ok (B + 40) (ef g k x y z) := by
  let h : PH := (1000, fun x => if x = 1 then .inl (.int, 4, .inl fun s => w (prc s)) else if x = 87 then .inr (9, stF 87 (shw g)) else if x = 88 then .inl (.int, 10, .inl (shw g 1)) else if x = 89 then .inl (.int, 10, .inl (shw g 2)) else if x = 90 then .inl (.char, 10, .inl (shw g 3)) else if x = 91 then .inl (.int, 10, .inl (shw g 4)) else if x = 92 then .inl (.int, 12, .inl (shw g 5)) else if x = 93 then .inl (.int, 12, .inl (shw g 6)) else if x = 94 then .inl (.int, 12, .inl (shw g 7)) else if x = 95 then .inl (.int, 5, .inl (shw g 9)) else if x = 96 then .inl (.int, 5, .inl (shw g 10)) else if x = 97 then .inl (.int, 5, .inl (shw g 11)) else if x = 111 then .inr (8, [.ref 112, .ref 113]) else if x = 112 then .inl (.int, 199, .inl fun _ => 0) else .inl (.int, 12, .inl fun _ => 0))
  have S : Sg B h 87 g := ⟨O, shw g, ⟨by decide, by show 87 + 10 < 1000; decide, rfl, rfl, rfl, rfl, rfl, rfl, rfl, rfl, rfl, rfl, rfl, fun i _ => wc_fits _, O.li⟩, rfl, rfl, rfl, rfl, rfl, rfl, rfl, fun k hk => ⟨rfl, rfl, rfl, rfl⟩, fun p hp => ⟨rfl, rfl, rfl⟩, fun k hk => ⟨rfl, rfl, rfl⟩⟩
  have La : LaC h 111 (fun _ => 0) (fun _ => 0) := ⟨by decide, by show 111 + 2 < 1000; decide, rfl, rfl, rfl⟩
  have Pr : Pri h := ⟨fun s => w (prc s), rfl, fun s _ => rfl⟩
  obtain ⟨h1, f1, -, S1, -⟩ := perf_all S La (JB.any O) Pr hb hk q
  exact S1.ok
theorem kind_w : ∀ k, k ≤ 10 → (¬ ((w k).toInt < 0 ∨ 10 < (w k).toInt)) ∧ ∀ j, j ≤ 10 → (w k = w j ↔ k = j) := by decide +kernel
theorem kind_11 : (w 11).toInt < 0 ∨ 10 < (w 11).toInt := by decide
/-- one command carried out by the reference -/
theorem car_ok (M : MoC h 131 e) (O : Ok B (e 0)) (A : KA e K c) (hb : B + 40 < 1000000000) (hi : i ≤ 13) (hk : k ≤ 11) (tk : e 18 (4 * i) = w k) (tv : ∀ j, j < cvs (tp k) → e 18 (4 * i + 1 + j) = vs.getD j 0) : MR h 131 e K c k (vs.getD 0 0) (vs.getD 1 0) (vs.getD 2 0) (f_X10_carries h 131 (w (4 * i))) := by
  have a0 : alI .int h (131 + 7) (w (4 * i)) = some (w k) := (M.a18 (by omega)).trans (congrArg some tk)
  have a1 : alI .int h (131 + 7) (w (4 * i) + (1 : Int32)) = some (e 18 (4 * i + 1)) := by rw [w_succ]; exact M.a18 (by omega)
  have a2 : alI .int h (131 + 7) (w (4 * i) + (2 : Int32)) = some (e 18 (4 * i + 2)) := by
    have : w (4 * i) + (2 : Int32) = w (4 * i + 2) := w_add _ 2
    rw [this]; exact M.a18 (by omega)
  have a3 : alI .int h (131 + 7) (w (4 * i) + (3 : Int32)) = some (e 18 (4 * i + 3)) := by
    have : w (4 * i) + (3 : Int32) = w (4 * i + 3) := w_add _ 3
    rw [this]; exact M.a18 (by omega)
  match k, hk with
  | 0, _ =>
    have t1 : e 18 (4 * i + 1) = vs.getD 0 0 := tv 0 (by decide)
    have t2 : e 18 (4 * i + 2) = vs.getD 1 0 := tv 1 (by decide)
    obtain ⟨h1, e1, a, E, X⟩ := mr_0 (x := vs.getD 0 0) (y := vs.getD 1 0) (z := vs.getD 2 0) O M A
    refine ⟨h1, e1, a, ?_, X⟩
    unfold f_X10_carries
    simp only [M.r18, a0, a1, a2, Option.bind_some]
    rw [if_neg (kind_w 0 (by decide)).1, if_pos (by decide)]
    simp only [M.gd, t1, t2, E, Option.bind_some]
  | 1, _ =>
    have t1 : e 18 (4 * i + 1) = vs.getD 0 0 := tv 0 (by decide)
    have t2 : e 18 (4 * i + 2) = vs.getD 1 0 := tv 1 (by decide)
    obtain ⟨h1, e1, a, E, X⟩ := mr_1 (x := vs.getD 0 0) (y := vs.getD 1 0) (z := vs.getD 2 0) O M A
    refine ⟨h1, e1, a, ?_, X⟩
    unfold f_X10_carries
    simp only [M.r18, a0, a1, a2, Option.bind_some]
    rw [if_neg (kind_w 1 (by decide)).1, if_neg (by decide), if_pos (by decide)]
    simp only [M.gd, t1, t2, E, Option.bind_some]
  | 2, _ =>
    have t1 : e 18 (4 * i + 1) = vs.getD 0 0 := tv 0 (by decide)
    have t2 : e 18 (4 * i + 2) = vs.getD 1 0 := tv 1 (by decide)
    obtain ⟨h1, e1, a, E, X⟩ := mr_2 (x := vs.getD 0 0) (y := vs.getD 1 0) (z := vs.getD 2 0) O M A
    refine ⟨h1, e1, a, ?_, X⟩
    unfold f_X10_carries
    simp only [M.r18, a0, a1, a2, Option.bind_some]
    rw [if_neg (kind_w 2 (by decide)).1, if_neg (by decide), if_neg (by decide), if_pos (by decide)]
    simp only [M.gd, t1, t2, E, Option.bind_some]
  | 3, _ =>
    have t1 : e 18 (4 * i + 1) = vs.getD 0 0 := tv 0 (by decide)
    have t2 : e 18 (4 * i + 2) = vs.getD 1 0 := tv 1 (by decide)
    obtain ⟨h1, e1, a, E, X⟩ := mr_3 (x := vs.getD 0 0) (y := vs.getD 1 0) (z := vs.getD 2 0) O M A
    refine ⟨h1, e1, a, ?_, X⟩
    unfold f_X10_carries
    simp only [M.r18, a0, a1, a2, Option.bind_some]
    rw [if_neg (kind_w 3 (by decide)).1, if_neg (by decide), if_neg (by decide), if_neg (by decide), if_pos (by decide)]
    simp only [M.gd, t1, t2, E, Option.bind_some]
  | 4, _ =>
    have t1 : e 18 (4 * i + 1) = vs.getD 0 0 := tv 0 (by decide)
    have t2 : e 18 (4 * i + 2) = vs.getD 1 0 := tv 1 (by decide)
    have t3 : e 18 (4 * i + 3) = vs.getD 2 0 := tv 2 (by decide)
    obtain ⟨h1, e1, a, E, X⟩ := mr_4 (x := vs.getD 0 0) (y := vs.getD 1 0) (z := vs.getD 2 0) O M A
    refine ⟨h1, e1, a, ?_, X⟩
    unfold f_X10_carries
    simp only [M.r18, a0, a1, a2, a3, Option.bind_some]
    rw [if_neg (kind_w 4 (by decide)).1, if_neg (by decide), if_neg (by decide), if_neg (by decide), if_neg (by decide), if_pos (by decide)]
    simp only [M.gd, M.r18, a3, t1, t2, t3, E, Option.bind_some]
  | 5, _ =>
    have t1 : e 18 (4 * i + 1) = vs.getD 0 0 := tv 0 (by decide)
    obtain ⟨h1, e1, a, E, X⟩ := mr_5 (x := vs.getD 0 0) (y := vs.getD 1 0) (z := vs.getD 2 0) O M A
    refine ⟨h1, e1, a, ?_, X⟩
    unfold f_X10_carries
    simp only [M.r18, a0, a1, a2, Option.bind_some]
    rw [if_neg (kind_w 5 (by decide)).1, if_neg (by decide), if_neg (by decide), if_neg (by decide), if_neg (by decide), if_neg (by decide), if_pos (by decide)]
    simp only [M.gd, t1, E, Option.bind_some]
  | 6, _ =>
    have t1 : e 18 (4 * i + 1) = vs.getD 0 0 := tv 0 (by decide)
    obtain ⟨h1, e1, a, E, X⟩ := mr_6 (x := vs.getD 0 0) (y := vs.getD 1 0) (z := vs.getD 2 0) O M A
    refine ⟨h1, e1, a, ?_, X⟩
    unfold f_X10_carries
    simp only [M.r18, a0, a1, a2, Option.bind_some]
    rw [if_neg (kind_w 6 (by decide)).1, if_neg (by decide), if_neg (by decide), if_neg (by decide), if_neg (by decide), if_neg (by decide), if_neg (by decide), if_pos (by decide)]
    simp only [M.gd, t1, E, Option.bind_some]
  | 7, _ =>
    have t1 : e 18 (4 * i + 1) = vs.getD 0 0 := tv 0 (by decide)
    have t2 : e 18 (4 * i + 2) = vs.getD 1 0 := tv 1 (by decide)
    obtain ⟨h1, e1, a, E, X⟩ := mr_7 (x := vs.getD 0 0) (y := vs.getD 1 0) (z := vs.getD 2 0) O M A
    refine ⟨h1, e1, a, ?_, X⟩
    unfold f_X10_carries
    simp only [M.r18, a0, a1, a2, Option.bind_some]
    rw [if_neg (kind_w 7 (by decide)).1, if_neg (by decide), if_neg (by decide), if_neg (by decide), if_neg (by decide), if_neg (by decide), if_neg (by decide), if_neg (by decide), if_pos (by decide)]
    simp only [M.gd, t1, t2, E, Option.bind_some]
  | 8, _ =>
    obtain ⟨h1, e1, a, E, X⟩ := mr_8 (x := vs.getD 0 0) (y := vs.getD 1 0) (z := vs.getD 2 0) O M A
    refine ⟨h1, e1, a, ?_, X⟩
    unfold f_X10_carries
    simp only [M.r18, a0, a1, a2, Option.bind_some]
    rw [if_neg (kind_w 8 (by decide)).1, if_neg (by decide), if_neg (by decide), if_neg (by decide), if_neg (by decide), if_neg (by decide), if_neg (by decide), if_neg (by decide), if_neg (by decide), if_pos (by decide)]
    simp only [M.gd, E, Option.bind_some]
  | 9, _ =>
    have t1 : e 18 (4 * i + 1) = vs.getD 0 0 := tv 0 (by decide)
    obtain ⟨h1, e1, a, E, X⟩ := mr_9 (x := vs.getD 0 0) (y := vs.getD 1 0) (z := vs.getD 2 0) O M A
    refine ⟨h1, e1, a, ?_, X⟩
    unfold f_X10_carries
    simp only [M.r18, a0, a1, a2, Option.bind_some]
    rw [if_neg (kind_w 9 (by decide)).1, if_neg (by decide), if_neg (by decide), if_neg (by decide), if_neg (by decide), if_neg (by decide), if_neg (by decide), if_neg (by decide), if_neg (by decide), if_neg (by decide), if_pos (by decide)]
    simp only [M.gd, t1, E, Option.bind_some]
  | 10, _ =>
    obtain ⟨h1, e1, a, E, X⟩ := mr_10 (x := vs.getD 0 0) (y := vs.getD 1 0) (z := vs.getD 2 0) O M A
    refine ⟨h1, e1, a, ?_, X⟩
    unfold f_X10_carries
    simp only [M.r18, a0, a1, a2, Option.bind_some]
    rw [if_neg (kind_w 10 (by decide)).1, if_neg (by decide), if_neg (by decide), if_neg (by decide), if_neg (by decide), if_neg (by decide), if_neg (by decide), if_neg (by decide), if_neg (by decide), if_neg (by decide), if_neg (by decide), if_pos (by decide)]
    simp only [M.gd, E, Option.bind_some]
  | 11, _ =>
    have t1 : e 18 (4 * i + 1) = vs.getD 0 0 := tv 0 (by decide)
    obtain ⟨h1, e1, a, E, X⟩ := mr_11 (x := vs.getD 0 0) (y := vs.getD 1 0) (z := vs.getD 2 0) O M A hb
    refine ⟨h1, e1, a, ?_, X⟩
    unfold f_X10_carries
    simp only [M.r18, a0, a1, a2, Option.bind_some]
    rw [if_pos kind_11]
    simp only [M.gd, t1, E, Option.bind_some]
theorem cd_pos (k : Nat) {v : Int32} (hv : ¬ v = 0) : ¬ cd k v ≤ 0 := by
  unfold cd
  rw [if_neg hv]
  repeat' split
  all_goals decide
theorem Rst.trans {e2 : CS} (p : Rst e e1) (q : Rst e1 e2) : Rst e e2 := fun j hj => (q j hj).trans (p j hj)
/-- the reference's run of the commands -/
theorem mexec_loop (hMC : MC u l) (hl : l.length ≤ 13) (hk : ∀ p, p ∈ l → p.1 ≤ 11 ∧ p.2.length = cvs (tp p.1)) : ∀ (r' : List (Nat × List Int32)) (i fu B : Nat) (h : PH) (e : CS) (got : Int32), (∃ p1, l = p1 ++ r' ∧ p1.length = i) → r'.length + 1 < fu → B + 40 * r'.length < 1000000000 → MoC h 131 e → Ok B (e 0) → e 6 0 = 1 → e 8 0 = 0 → e 18 = u → e 19 0 = w l.length → ∃ h1 e1 got1, f_X10_execute_L62 fu h 131 (w i) got = some (w (xe r' i (e 0)).1, got1, h1) ∧ MoC h1 131 e1 ∧ fr (mW 131) h h1 ∧ Rst e e1 ∧ e1 0 = (xe r' i (e 0)).2.2 ∧ e1 1 = e 1 ∧ e1 5 = e 5 ∧ (((xe r' i (e 0)).2.1 = 0 ∧ e1 8 0 = 0 ∧ e1 9 = e 9 ∧ e1 10 = e 10 ∧ e1 11 = e 11) ∨ (¬ (xe r' i (e 0)).2.1 = 0 ∧ ¬ e1 8 0 ≤ 0 ∧ ((0 < (xe r' i (e 0)).2.1 ∧ e1 7 0 = 1 ∧ e1 9 0 = (xe r' i (e 0)).2.1) ∨ (¬ 0 < (xe r' i (e 0)).2.1 ∧ e1 7 0 = 0)))) := by
  intro r'
  induction r' with
  | nil =>
    intro i fu B h e got hp hf hb M O h6 h8 h18 h19
    obtain ⟨p1, hp1, hp2⟩ := hp
    have el : l.length = i := by rw [hp1, List.append_nil, hp2]
    have i19 : rdI h 131 12 19 = some (w i) := by rw [M.i19, h19, el]
    cases fu with
    | zero => exact absurd hf (Nat.not_lt_zero _)
    | succ fu =>
      refine ⟨h, e, got, ?_, M, fr.refl _ _, fun _ _ => rfl, rfl, rfl, rfl, Or.inl ⟨rfl, h8, rfl, rfl, rfl⟩⟩
      show f_X10_execute_L62 (fu + 1) h 131 (w i) got = some (w i, got, h)
      simp only [f_X10_execute_L62, i19, Option.bind_some, if_pos is_ge]
  | cons p r' ih =>
    intro i fu B h e got hp hf hb M O h6 h8 h18 h19
    obtain ⟨p1, hp1, hp2⟩ := hp
    have el : l.length = i + (r'.length + 1) := by rw [hp1, List.length_append, hp2, List.length_cons]
    have hi : i < l.length := by omega
    rw [List.length_cons] at hb hf
    have i19 : rdI h 131 12 19 = some (w l.length) := by rw [M.i19, h19]
    have i8 : rdI h 131 12 8 = some 0 := by rw [M.i8, h8]
    have nl : ¬ w l.length ≤ w i := by rw [w_le (by omega) (by omega)]; omega
    have eg : l.getD i (0, []) = p := by
      rw [hp1, ← hp2]
      simp
    have hpm : p ∈ l := by rw [hp1]; simp
    obtain ⟨m1, m2⟩ := hMC i hi
    rw [eg] at m1 m2
    obtain ⟨k1, k2⟩ := hk p hpm
    obtain ⟨h1, e1, a, E, M1, F1, R1, Z⟩ := car_ok (vs := p.2) (K := fun _ => e 0) (c := 0) M O (Or.inr h6) (by omega) (show i ≤ 13 by omega) k1 (by rw [h18]; exact m1) (fun j hj => by rw [h18]; exact m2 j (by omega))
    have e4 : (4 : Int32) * w i = w (4 * i) := w_mul 4 i
    have nn : ¬ ¬ (0 : Int32) = 0 := fun z => z rfl
    cases fu with
    | zero => exact absurd hf (Nat.not_lt_zero _)
    | succ fu =>
      rcases Z with ⟨v, z2, z3, z4, z5, z6, z7, z8⟩ | ⟨v, z2, z3, z4, z5, z6, z7, z8, z9, z10⟩ | ⟨v, z2, z3, z4, z5, z6, z7, z8, z9, z10⟩
      · have exq : xe (p :: r') i (e 0) = xe r' (i + 1) (ef (e 0) p.1 (p.2.getD 0 0) (p.2.getD 1 0) (p.2.getD 2 0)) := if_pos v
        have kk : e1 1 = e 1 ∧ e1 5 = e 5 := by
          rcases z8 with ⟨y, -⟩ | ⟨-, y⟩
          · rw [h6] at y; exact absurd y (by decide)
          · exact y
        have O1 : Ok (B + 40) (e1 0) := by
          rw [z3]
          exact perfOk O (by omega) k1 v
        obtain ⟨h2, e2, got2, E2, M2, F2, R2, y1, y2, y3, Y⟩ := ih (i + 1) fu (B + 40) h1 e1 a ⟨p1 ++ [p], by rw [hp1]; simp, by rw [List.length_append, hp2]; rfl⟩ (by omega) (by omega) M1 O1 (by rw [R1 6 (by omega)]; exact h6) z4 (by rw [R1 18 (by omega)]; exact h18) (by rw [R1 19 (by omega)]; exact h19)
        have i81 : rdI h1 131 12 8 = some 0 := by rw [M1.i8, z4]
        rw [z3] at E2 y1 Y
        rw [exq]
        refine ⟨h2, e2, got2, ?_, M2, F1.trans F2, R1.trans R2, y1, y2.trans kk.1, y3.trans kk.2, ?_⟩
        · rw [← E2]
          simp only [f_X10_execute_L62, i19, if_neg nl, i8, if_neg nn, not_true_eq_false, if_false, M.gd, e4, E, i81, w_succ, Option.bind_some]
        · rcases Y with ⟨q1, q2, q3, q4, q5⟩ | Y
          · exact Or.inl ⟨q1, q2, q3.trans z5, q4.trans z6, q5.trans z7⟩
          · exact Or.inr Y
      · have v0 : ¬ ju (e 0) p.1 (p.2.getD 0 0) (p.2.getD 1 0) (p.2.getD 2 0) = 0 := fun q => by rw [q] at v; exact absurd v (by decide)
        have exq : xe (p :: r') i (e 0) = (i, ju (e 0) p.1 (p.2.getD 0 0) (p.2.getD 1 0) (p.2.getD 2 0), e 0) := if_neg v0
        have cp := cd_pos p.1 v0
        have i81 : rdI h1 131 12 8 = some (cd p.1 (ju (e 0) p.1 (p.2.getD 0 0) (p.2.getD 1 0) (p.2.getD 2 0))) := by rw [M1.i8, z4]
        have c0 := cd_ne p.1 v0
        have i191 : rdI h1 131 12 19 = some (w l.length) := by rw [M1.i19, R1 19 (by omega), h19]
        rw [exq]
        refine ⟨h1, e1, a, ?_, M1, F1, R1, z3, z9, z10, Or.inr ⟨v0, by rw [z4]; exact cp, Or.inl ⟨v, z5, z6⟩⟩⟩
        cases fu with
        | zero => exact absurd hf (by omega)
        | succ fu =>
          show f_X10_execute_L62 (fu + 1 + 1) h 131 (w i) got = some (w i, a, h1)
          have last : f_X10_execute_L62 (fu + 1) h1 131 (w i) a = some (w i, a, h1) := by
            simp only [f_X10_execute_L62, i191, if_neg nl, i81, if_pos c0, Option.bind_some]
          rw [← last]
          simp only [f_X10_execute_L62, i19, if_neg nl, i8, if_neg nn, not_true_eq_false, if_false, M.gd, e4, E, i81, if_pos c0, Option.bind_some]
      · have v0 : ¬ ju (e 0) p.1 (p.2.getD 0 0) (p.2.getD 1 0) (p.2.getD 2 0) = 0 := fun q => by rw [q] at v; exact absurd v (by decide)
        have exq : xe (p :: r') i (e 0) = (i, ju (e 0) p.1 (p.2.getD 0 0) (p.2.getD 1 0) (p.2.getD 2 0), e 0) := if_neg v0
        have cp := cd_pos p.1 v0
        have i81 : rdI h1 131 12 8 = some (cd p.1 (ju (e 0) p.1 (p.2.getD 0 0) (p.2.getD 1 0) (p.2.getD 2 0))) := by rw [M1.i8, z4]
        have c0 := cd_ne p.1 v0
        have i191 : rdI h1 131 12 19 = some (w l.length) := by rw [M1.i19, R1 19 (by omega), h19]
        rw [exq]
        refine ⟨h1, e1, a, ?_, M1, F1, R1, z3, z9, z10, Or.inr ⟨v0, by rw [z4]; exact cp, Or.inr ⟨fun q => absurd (Int32.lt_trans q v) (Int32.lt_irrefl), z5⟩⟩⟩
        cases fu with
        | zero => exact absurd hf (by omega)
        | succ fu =>
          show f_X10_execute_L62 (fu + 1 + 1) h 131 (w i) got = some (w i, a, h1)
          have last : f_X10_execute_L62 (fu + 1) h1 131 (w i) a = some (w i, a, h1) := by
            simp only [f_X10_execute_L62, i191, if_neg nl, i81, if_pos c0, Option.bind_some]
          rw [← last]
          simp only [f_X10_execute_L62, i19, if_neg nl, i8, if_neg nn, not_true_eq_false, if_false, M.gd, e4, E, i81, if_pos c0, Option.bind_some]
end MEXEC
