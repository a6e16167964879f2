/-! choosing: the class -/
section CHOOSE
variable {B : Nat} {g : GS} {h h1 : PH} {a l k p : Nat} {f x : Nat → Int32}
theorem gR_le {g : GS} {p : Nat} (O : Ok B g) (hp : p < 12) : gR g p ≤ 198 := by
  have := (O.page hp).2.2.1
  unfold gR
  split <;> omega
theorem Sg.la (H : Sg B h a g) (F : fr (laW l) h h1) (hd : ∀ i, i ≤ 10 → ¬ laW l (a + i)) : Sg B h1 a g := H.frm F hd
theorem choose_dp (H : Sg B h a g) (L : LaC h l f x) (hd : ∀ i, i ≤ 10 → ¬ laW l (a + i)) {C R : Nat} (hC : C < 1024) (hR : R ≤ 198) (hI : ∀ s, s ≤ R → Dv g C 0 s (f s)) : ∃ h1 f1, f_X6_chooseFrom_L27 FV h l a (w C) (w R) (0 : Int32) = some h1 ∧ LaC h1 l f1 x ∧ (∀ s, s ≤ R → Dv g C (gN g) s (f1 s)) ∧ fr (laW l) h h1 := by
  have hn := H.ok.n
  obtain ⟨h1, e1, ⟨f1, L1, D1⟩, F1⟩ := sloop0 (fun fu k (q : PH) => f_X6_chooseFrom_L27 fu q l a (w C) (w R) (w k)) id (gN g) (fun k q => (∃ f1, LaC q l f1 x ∧ ∀ s, s ≤ R → Dv g C k s (f1 s)) ∧ fr (laW l) h q) (by omega) (fun fu k q hk hI => by
    obtain ⟨⟨f1, L1, D1⟩, F1⟩ := hI
    have Hq := H.la F1 hd
    have hT := (H.ok.note hk)
    by_cases c : C.testBit k = true
    · obtain ⟨q1, e1, L2, F2⟩ := try_loop (P := 2 ^ (9 - k)) hT.2.2.2.1 hT.2.2.2.2.1 FV R q f1 (by rw [FV_eq]; omega) (by omega) L1
      refine ⟨q1, ?_, ⟨_, L2, fun s hs => ?_⟩, F1.trans F2⟩
      · have eb : f_X9_bit ((9 : Int32) - w k) = w (2 ^ (9 - k)) := by
          rw [show (9 : Int32) - w k = w (9 - k) from w_sub (a := 9) (by omega), bit_w (by omega)]
        have et : f_X6_tryWith q l (w (gT g k)) (w (2 ^ (9 - k))) (w R) = some q1 := by
          unfold f_X6_tryWith
          rw [e1]; rfl
        have ch : ¬ C.testBit k = false := by rw [c]; decide
        show f_X6_chooseFrom_L27 (fu + 1) q l a (w C) (w R) (w k) = f_X6_chooseFrom_L27 fu q1 l a (w C) (w R) (w (k + 1))
        simp only [f_X6_chooseFrom_L27, Hq.i0, Option.bind_some, if_neg (is_lt hk (by omega)), has_w (show C < 2147483648 by omega) (show k < 31 by omega), if_neg ch, Hq.r2, Hq.a2 hk, L1.gd, eb, et, w_succ]
      · unfold tw
        by_cases d : gT g k ≤ s
        · rw [if_pos ⟨d, hs⟩]
          exact Dv.step hC hk (by omega) c d (D1 s hs) (D1 _ (by omega))
        · rw [if_neg (by omega)]
          exact (D1 s hs).low hk (by omega)
    · have c' : C.testBit k = false := by simpa using c
      refine ⟨q, ?_, ⟨f1, L1, fun s hs => (D1 s hs).skip c'⟩, F1⟩
      show f_X6_chooseFrom_L27 (fu + 1) q l a (w C) (w R) (w k) = f_X6_chooseFrom_L27 fu q l a (w C) (w R) (w (k + 1))
      simp only [f_X6_chooseFrom_L27, Hq.i0, Option.bind_some, if_neg (is_lt hk (by omega)), has_w (show C < 2147483648 by omega) (show k < 31 by omega), if_pos c', w_succ]) (fun fu q hI => by
    have Hq := H.la hI.2 hd
    show f_X6_chooseFrom_L27 (fu + 1) q l a (w C) (w R) (w (gN g)) = some q
    simp only [f_X6_chooseFrom_L27, Hq.i0, Option.bind_some, if_pos is_ge]) (k := 0) (s := h) (Nat.zero_le _) ⟨⟨f, L, hI⟩, fr.refl _ _⟩
  exact ⟨h1, f1, e1, L1, D1, F1⟩
theorem find_sum (L : LaC h l f x) (C : Nat) : ∀ fu s, s < fu → s < 199 → (∀ i, i ≤ s → Dv g C (gN g) i (f i)) → (∀ S, S < 1024 → S &&& C = S → True) → f 0 = w 0 → C < 1024 → ∃ i, i ≤ s ∧ f_X6_chooseFrom_L76 fu h l (w s) = some (w i) ∧ ¬ f i = -1 ∧ ∀ j, i < j → j ≤ s → f j = -1 := by
  intro fu
  induction fu with
  | zero => intro s h0; omega
  | succ fu ih =>
    intro s h0 h1 D _ z0 hC
    by_cases z : s = 0
    · subst z
      refine ⟨0, Nat.le_refl _, ?_, by rw [z0]; decide, fun j _ _ => by omega⟩
      simp only [f_X6_chooseFrom_L76, if_pos (show w 0 ≤ 0 from Int32.le_refl _)]
    · have c0 : ¬ w s ≤ 0 := fun q => z (by
        have := (w_le (a := s) (b := 0) (by omega) (by decide)).mp q
        omega)
      simp only [f_X6_chooseFrom_L76, if_neg c0, L.r0, L.a0 (show s < 199 by omega), Option.bind_some]
      rcases D s (Nat.le_refl _) with ⟨e, -⟩ | ⟨T, t1, -, -, t4, -⟩
      · have c1 : ¬ (0 : Int32) ≤ f s := by rw [e]; decide
        obtain ⟨i, q1, q2, q3, q4⟩ := ih (s - 1) (by omega) (by omega) (fun i hi => D i (by omega)) (fun _ _ _ => trivial) z0 hC
        rw [if_neg c1, w_pred (by omega)]
        refine ⟨i, by omega, q2, q3, fun j h1 h2 => ?_⟩
        by_cases c : j = s
        · rw [c]; exact e
        · exact q4 j h1 (by omega)
      · have ht := rv_lt T (Nat.lt_of_le_of_lt (sub_le t1) hC)
        have c1 : (0 : Int32) ≤ f s := by rw [t4]; exact (w_le (a := 0) (by decide) (by omega)).mpr (Nat.zero_le _)
        rw [if_pos c1]
        refine ⟨s, Nat.le_refl _, rfl, fun q => ?_, fun j h1 h2 => by omega⟩
        rw [q] at c1
        exact absurd c1 (by decide)
theorem turned_w {T : Nat} (hT : T < 1024) : f_X6_turned (w (rv T)) = some (w T) := by
  have hr := rv_lt T hT
  have L := or_loop (fun fu k b => f_X6_turned_L4 fu (w (rv T)) b (w k)) 10 (fun k => (rv T).testBit (9 - k)) (by decide) (fun fu k b hk => by
    show f_X6_turned_L4 (fu + 1) (w (rv T)) b (w k) = f_X6_turned_L4 fu (w (rv T)) (if (rv T).testBit (9 - k) = true then b ||| w (2 ^ k) else b) (w (k + 1))
    have e9 : (9 : Int32) - w k = w (9 - k) := w_sub (a := 9) (by omega)
    simp only [f_X6_turned_L4, if_neg (show ¬ (10 : Int32) ≤ w k from is_lt (n := 10) hk (by decide)), e9, has_w (show rv T < 2147483648 by omega) (show 9 - k < 31 by omega), bit_w (show k < 31 by omega), w_succ]
    cases (rv T).testBit (9 - k) <;> simp) (fun fu b => by
    show f_X6_turned_L4 (fu + 1) (w (rv T)) b (w 10) = some b
    simp only [f_X6_turned_L4, if_pos (show (10 : Int32) ≤ w 10 from is_ge)])
  unfold f_X6_turned
  show (f_X6_turned_L4 FV (w (rv T)) (w 0) (w 0)).bind _ = _
  rw [L, rv_back T hT]
  rfl
theorem min_w {R : Nat} (hR : R ≤ 198) : f_J9_min_7cf53 (w R) (198 : Int32) = w R := by
  unfold f_J9_min_7cf53
  rw [if_neg]
  intro q
  have := (w_lt (a := 198) (b := R) (by decide) (by omega)).mp q
  omega
theorem chooseFrom_ok (H : Sg B h a g) (L : LaC h l f x) (hd : ∀ i, i ≤ 10 → ¬ laW l (a + i)) {C R : Nat} (hC : C < 2 ^ gN g) (hR : R ≤ 198) : ∃ h1 f1 S, f_X6_chooseFrom h l a (w C) (w R) = some (w S, h1) ∧ LaC h1 l f1 x ∧ Bst g C R S ∧ fr (laW l) h h1 := by
  have hn := H.ok.n
  have hC10 := small10 hn hC
  obtain ⟨q1, g1, e1, L1, K1, F1⟩ := lafill L (-1)
  obtain ⟨q2, e2, L2, F2⟩ := L1.s0 (k := 0) (v := 0) (by decide)
  have H2 := (H.la F1 hd).la F2 hd
  obtain ⟨q3, g3, e3, L3, D3, F3⟩ := choose_dp H2 L2 hd hC10 hR (fun s hs => by
    by_cases z : s = 0
    · subst z
      rw [upd_eq]
      refine Or.inr ⟨0, Nat.zero_and _, by decide, gW_0 g, by unfold rv; rw [sw_0]; rfl, fun T' _ h2 _ => ?_⟩
      have : T' = 0 := by
        have : 2 ^ 0 = 1 := rfl
        omega
      subst this
      exact Nat.le_refl _
    · rw [upd_ne z, K1 s (by omega)]
      refine Or.inl ⟨rfl, fun T _ h2 h3 => z ?_⟩
      have : T = 0 := by
        have : 2 ^ 0 = 1 := rfl
        omega
      subst this
      rw [← h3, gW_0])
  have small : ∀ T, T &&& C = T → T < 1024 ∧ T < 2 ^ gN g := fun T h => ⟨Nat.lt_of_le_of_lt (sub_le h) hC10, Nat.lt_of_le_of_lt (sub_le h) hC⟩
  have z3 : g3 0 = w 0 := by
    rcases D3 0 (Nat.zero_le _) with ⟨e, D⟩ | ⟨T, t1, t2, t3, t4, t5⟩
    · exact absurd (gW_0 g) (D 0 (Nat.zero_and _) (Nat.two_pow_pos _))
    · have T0 : T = 0 := by
        refine Nat.eq_of_testBit_eq fun j => ?_
        rw [Nat.zero_testBit]
        cases c : T.testBit j
        · rfl
        · have hj : j < gN g := Nat.lt_of_not_le fun q => by
            rw [low_no t2 q] at c
            exact absurd c (by decide)
          have := gW_pos H.ok hj c
          omega
      rw [t4, T0]
      unfold rv
      rw [sw_0]
  obtain ⟨i, i1, i2, i3, i4⟩ := find_sum (g := g) L3 C FV R (by rw [FV_eq]; omega) (by omega) D3 (fun _ _ _ => trivial) z3 hC10
  rcases D3 i i1 with ⟨e, -⟩ | ⟨T, t1, t2, t3, t4, t5⟩
  · exact absurd e i3
  · refine ⟨q3, g3, T, ?_, L3, ⟨t1, by omega, fun T' u1 u2 => ?_⟩, (F1.trans F2).trans F3⟩
    · have e2' : asI .int q1 (l + 1) (0 : Int32) (0 : Int32) = some q2 := e2
      unfold f_X6_chooseFrom
      simp only [L.r0, Option.bind_some, e1, L1.r0, e2', min_w hR, e3, i2, L3.r0, L3.a0 (show i < 199 by omega)]
      rw [t4, turned_w (small T t1).1]
      rfl
    · by_cases c : i < gW g T'
      · rcases D3 (gW g T') u2 with ⟨e, D⟩ | ⟨U, v1, v2, v3, v4, v5⟩
        · exact absurd rfl (D T' u1 (small T' u1).2)
        · have := i4 (gW g T') c u2
          rw [v4] at this
          have hu := rv_lt U (small U v1).1
          have hlt := m1_lt (n := rv U) (by omega)
          rw [this] at hlt
          exact absurd hlt (by decide)
      · by_cases d : gW g T' = i
        · exact Or.inr ⟨by omega, t5 T' u1 (small T' u1).2 d⟩
        · exact Or.inl (by omega)
theorem heldOn_ok (H : Sg B h a g) {S : Nat} (hS : S < 2147483648) (hp : p < 12) : f_X6_heldOn h a (w S) (w p) = some (w (gOn g p S)) := by
  have hn := H.ok.n
  have L := or_loop (fun fu k b => f_X6_heldOn_L5 fu h a (w S) (w p) b (w k)) (gN g) (fun k => S.testBit k && gP g k == p) (by omega) (fun fu k b hk => by
    have h3 := (H.ok.note hk).2.1
    show f_X6_heldOn_L5 (fu + 1) h a (w S) (w p) b (w k) = f_X6_heldOn_L5 fu h a (w S) (w p) (if (S.testBit k && gP g k == p) = true then b ||| w (2 ^ k) else b) (w (k + 1))
    simp only [f_X6_heldOn_L5, H.i0, Option.bind_some, if_neg (is_lt hk (by omega)), has_w hS (show k < 31 by omega), H.r1, H.a1 hk, bit_w (show k < 31 by omega), w_succ, w_inj (show gP g k < 2147483648 by omega) (show p < 2147483648 by omega)]
    by_cases q : S.testBit k = true
    · by_cases r : gP g k = p
      · simp [q, r]
      · simp [q, r]
    · simp [q]) (fun fu b => by
    show f_X6_heldOn_L5 (fu + 1) h a (w S) (w p) b (w (gN g)) = some b
    simp only [f_X6_heldOn_L5, H.i0, Option.bind_some, if_pos is_ge])
  unfold f_X6_heldOn
  show (f_X6_heldOn_L5 FV h a (w S) (w p) (w 0) (w 0)).bind _ = _
  rw [L]
  rfl
theorem Bst.zero (g : GS) (R : Nat) : Bst g 0 R 0 := ⟨rfl, by rw [gW_0]; exact Nat.zero_le _, fun T h _ => by
  have : T = 0 := by rw [← h, Nat.and_zero]
  rw [this]; exact Or.inr ⟨rfl, Nat.le_refl _⟩⟩
theorem gJ_0 {g : GS} {p : Nat} (hn : gN g ≤ 10) (h : gOn g p (gs g 1) = 0) : gJ g p = 0 := gJ_of hn (by rw [h]; exact Bst.zero _ _)
theorem gOn_0 {g : GS} {p : Nat} : gOn g p 0 = 0 := Nat.eq_of_testBit_eq fun j => by
  unfold gOn
  rw [mk_bit]; simp
theorem ors_stop {f : Nat → Nat} {n m : Nat} (h : n ≤ m) (hz : ∀ k, n ≤ k → k < m → f k = 0) : ors f m = ors f n := by
  induction m with
  | zero =>
    have : n = 0 := by omega
    rw [this]
  | succ m ih =>
    by_cases c : n = m + 1
    · rw [c]
    · show ors f m ||| f m = _
      rw [ih (by omega) (fun k h1 h2 => hz k h1 (by omega)), hz m (by omega) (by omega), Nat.or_zero]
theorem choose_ok (H : Sg B h a g) (L : LaC h l f x) (hd : ∀ i, i ≤ 10 → ¬ laW l (a + i)) : ∃ h1 f1, f_X6_choose h l a = some (w (gA g), h1) ∧ LaC h1 l f1 x ∧ fr (laW l) h h1 := by
  have hn := H.ok.n
  have hg := gs_lt H.ok 1
  have so := setOf_ok H (c := 104) (i := 1) (fun n hn => wc_1 hn)
  by_cases z : gs g 1 = 0
  · have eA : gA g = 0 := by
      unfold gA
      rw [ors_stop (n := 0) (by decide) (fun k _ _ => gJ_0 hn (by rw [z]; exact gOn_0))]
      rfl
    obtain ⟨fu, hf⟩ := FV_s
    refine ⟨h, f, ?_, L, fr.refl _ _⟩
    unfold f_X6_choose
    simp only [H.gd, Option.bind_some, so, z, eA, hf, f_X6_choose_L12, if_neg (show ¬ (12 : Int32) ≤ 0 by decide), if_pos (show w 0 = 0 from rfl)]
    rfl
  · have zw : ¬ w (gs g 1) = 0 := fun q => z ((w_inj (b := 0) (by omega) (by decide)).mp q)
    obtain ⟨⟨h1, c1⟩, e1, ⟨f1, L1⟩, E1, F1⟩ := sloop0 (fun fu k (q : PH × Int32) => f_X6_choose_L12 fu q.1 l a (w (gs g 1)) q.2 (w k)) (fun q => (q.2, q.1)) 12 (fun k q => (∃ f1, LaC q.1 l f1 x) ∧ q.2 = w (ors (gJ g) k) ∧ fr (laW l) h q.1) (by decide) (fun fu k q hk hI => by
      obtain ⟨⟨f1, L1⟩, E1, F1⟩ := hI
      have Hq := H.la F1 hd
      have ho := heldOn_ok Hq (S := gs g 1) (by omega) hk
      have lo := gOn_lt hn k (gs g 1)
      by_cases c : gOn g k (gs g 1) = 0
      · refine ⟨q, ?_, ⟨f1, L1⟩, ?_, F1⟩
        · have c1 : w (gOn g k (gs g 1)) = 0 := by rw [c]; rfl
          show f_X6_choose_L12 (fu + 1) q.1 l a (w (gs g 1)) q.2 (w k) = f_X6_choose_L12 fu q.1 l a (w (gs g 1)) q.2 (w (k + 1))
          simp only [f_X6_choose_L12, if_neg (show ¬ (12 : Int32) ≤ w k from is_lt (n := 12) hk (by decide)), if_neg zw, ho, Option.bind_some, if_pos c1, w_succ]
        · unfold ors
          rw [gJ_0 hn c, Nat.or_zero]; exact E1
      · have c1 : ¬ w (gOn g k (gs g 1)) = 0 := fun q => c ((w_inj (b := 0) (by omega) (by decide)).mp q)
        obtain ⟨q1, f2, S, e2, L2, D2, F2⟩ := chooseFrom_ok Hq L1 hd (C := gOn g k (gs g 1)) (R := gR g k) (mk_lt _ _) (gR_le H.ok hk)
        have ej := gJ_of hn D2
        refine ⟨(q1, w (ors (gJ g) (k + 1))), ?_, ⟨f2, L2⟩, rfl, F1.trans F2⟩
        show f_X6_choose_L12 (fu + 1) q.1 l a (w (gs g 1)) q.2 (w k) = f_X6_choose_L12 fu q1 l a (w (gs g 1)) (w (ors (gJ g) (k + 1))) (w (k + 1))
        simp only [f_X6_choose_L12, if_neg (show ¬ (12 : Int32) ≤ w k from is_lt (n := 12) hk (by decide)), if_neg zw, ho, Option.bind_some, if_neg c1, Hq.gd, room_ok Hq hk, L1.gd, e2, w_succ]
        rw [E1, w_or, ← ej]
        rfl) (fun fu q hI => by
      show f_X6_choose_L12 (fu + 1) q.1 l a (w (gs g 1)) q.2 (w 12) = some (q.2, q.1)
      simp only [f_X6_choose_L12, if_pos (show (12 : Int32) ≤ w 12 from is_ge)]) (k := 0) (s := (h, w 0)) (Nat.zero_le _) ⟨⟨f, L⟩, rfl, fr.refl _ _⟩
    have e1' : f_X6_choose_L12 FV h l a (w (gs g 1)) (0 : Int32) (0 : Int32) = some (c1, h1) := e1
    have E1 : c1 = w (ors (gJ g) 12) := E1
    refine ⟨h1, f1, ?_, L1, F1⟩
    unfold f_X6_choose
    simp only [H.gd, Option.bind_some, so, e1', E1]
    rfl
end CHOOSE
