/-! THE SEARCH IN DEPTH on the heap -/
section DEPTH
variable {B : Nat} {g : GS} {h h1 : PH} {a c k i j v : Nat} {T T1 : Nat → Nat} {mm P fd mm1 P1 fd1 lo : Nat}
def Se (g : GS) (h : PH) (c : Nat) (T : Nat → Nat) (mm P fd : Nat) : Prop := ∃ z, CiC h c z ∧ (∀ k, k < gN g → z 4 k = w (T k)) ∧ z 5 0 = w mm ∧ z 6 0 = w P ∧ z 7 0 = w fd
theorem min_ww {n m : Nat} (hn : n < 2147483648) (hm : m < 2147483648) : f_J9_min_7cf53 (w n) (w m) = w (min n m) := by
  unfold f_J9_min_7cf53
  by_cases c : m < n
  · rw [if_pos ((w_lt hm hn).mpr c)]; congr 1; omega
  · rw [if_neg (fun q => c ((w_lt hm hn).mp q))]; congr 1; omega
theorem Lop.fresh (L : Lop g v T mm P T1 mm1 P1 fd1 lo i) (D : Dfs g T mm P fd) (hk : P1.testBit k = true) : P.testBit k = false ↔ mm + 1 ≤ T1 k := by
  obtain ⟨D1, ext, tv, m1, pv, new, up, dn, J, K, l0, l1, l2⟩ := L
  constructor
  · intro y
    rcases dn k hk with z | z
    · rw [y] at z; exact absurd z (by decide)
    · have := new k (D1.lt hk) z (D1.met hk); omega
  · intro y
    cases z : P.testBit k
    · rfl
    · have a1 := ext k (D.lt z) (D.met z)
      have a2 := D.le (D.lt z)
      omega
theorem close_ok (H : Sg B h a g) (D : Dfs g T mm P fd) (L : Lop g v T mm P T1 mm1 P1 fd1 lo (gN g)) (hv : v < gN g) (hlo : lo = mm + 1) (S : Se g h c T1 mm1 P1 fd1) (hd : ∀ i, i ≤ 10 → ¬ ciW c (a + i)) : ∃ h1, f_X3_close h (c + 5) a (w (mm + 1)) = some h1 ∧ Se g h1 c T1 mm1 P (fd1 + if 1 < pop (gO g v) then 1 else 0) ∧ fr (ciW c) h h1 := by
  have O := H.ok
  have hn := O.n
  have D1 := L.1
  have ring := (L.ring D O hv hlo).2
  have gl : gO g v < 1024 := small10 hn (gO_lt hv)
  have p1l : P1 < 1024 := small10 hn D1.pl
  have ml := D.mle
  obtain ⟨z, C, z4, z5, z6, z7⟩ := S
  have L5 := or_loop (fun fu k b => f_X3_close_L5 fu h (c + 5) a (w (mm + 1)) b (w k)) (gN g) (fun k => P1.testBit k && decide (mm + 1 ≤ T1 k)) (by omega) (fun fu k b hk => by
    have tl := D1.le hk
    have ml1 := D1.mle
    show f_X3_close_L5 (fu + 1) h (c + 5) a (w (mm + 1)) b (w k) = f_X3_close_L5 fu h (c + 5) a (w (mm + 1)) (if (P1.testBit k && decide (mm + 1 ≤ T1 k)) = true then b ||| w (2 ^ k) else b) (w (k + 1))
    simp only [f_X3_close_L5, H.i0, Option.bind_some, if_neg (is_lt hk (by omega)), C.q2, z6, has_w (show P1 < 2147483648 by omega) (show k < 31 by omega), C.q0, C.a4 (show k < 10 by omega), z4 k hk, w_lt (show T1 k < 2147483648 by omega) (show mm + 1 < 2147483648 by omega), bit_w (show k < 31 by omega), w_succ]
    cases y : P1.testBit k
    · simp
    · by_cases q : T1 k < mm + 1
      · have q' : ¬ mm + 1 ≤ T1 k := by omega
        simp [q, q']
      · have q' : mm + 1 ≤ T1 k := by omega
        simp [q, q']) (fun fu b => by
    show f_X3_close_L5 (fu + 1) h (c + 5) a (w (mm + 1)) b (w (gN g)) = some b
    simp only [f_X3_close_L5, H.i0, Option.bind_some, if_pos is_ge])
  have eS : mk (fun k => P1.testBit k && decide (mm + 1 ≤ T1 k)) (gN g) = gO g v := Nat.eq_of_testBit_eq fun k => by
    rw [mk_bit]
    have r := ring k
    cases y : P1.testBit k
    · have : (gO g v).testBit k = false := by
        cases q : (gO g v).testBit k
        · rfl
        · have := (r.mp q).1
          rw [y] at this; exact absurd this (by decide)
      rw [this]; simp
    · have kn := D1.lt y
      have f := L.fresh D y
      by_cases q : mm + 1 ≤ T1 k
      · rw [r.mpr ⟨y, f.mpr q⟩]; simp [kn, q]
      · have : (gO g v).testBit k = false := by
          cases x : (gO g v).testBit k
          · rfl
          · exact absurd (f.mp (r.mp x).2) q
        rw [this]; simp [q]
  rw [eS] at L5
  have L5' : f_X3_close_L5 FV h (c + 5) a (w (mm + 1)) (0 : Int32) (0 : Int32) = some (w (gO g v)) := L5
  have eP : P1 ^^^ (P1 &&& gO g v) = P := Nat.eq_of_testBit_eq fun k => by
    rw [Nat.testBit_xor, Nat.testBit_and]
    have r := ring k
    have up := L.2.2.2.2.2.2.1 k
    cases y : P1.testBit k
    · cases q : P.testBit k
      · rfl
      · rw [up q] at y; exact absurd y (by decide)
    · cases q : P.testBit k
      · rw [r.mpr ⟨y, q⟩]; rfl
      · have : (gO g v).testBit k = false := by
          cases x : (gO g v).testBit k
          · rfl
          · have := (r.mp x).2
            rw [q] at this; exact absurd this (by decide)
        rw [this]; rfl
  have eW : (w P1 &&& (w (gO g v) ^^^ (-1 : Int32))) = w P := by rw [not_w (by omega), eP]
  obtain ⟨h1, e1, C1, F1⟩ := C.w2 (x := w P)
  have bc := bitCount_w _ gl
  have pl := pop_le (gO g v)
  by_cases y : pop (gO g v) ≤ 1
  · have cy : f_J6_bitCount_0f7a4 (w (gO g v)) ≤ (1 : Int32) := by rw [bc]; exact (w_le (b := 1) (by omega) (by decide)).mpr y
    refine ⟨h1, ?_, ⟨_, C1, z4, z5, rfl, by rw [if_neg (by omega)]; exact z7⟩, F1⟩
    unfold f_X3_close
    simp only [L5', C.q2, z6, Option.bind_some, eW, e1, if_pos cy]
  · have cy : ¬ f_J6_bitCount_0f7a4 (w (gO g v)) ≤ (1 : Int32) := by
      rw [bc]; exact fun q => y ((w_le (b := 1) (by omega) (by decide)).mp q)
    obtain ⟨h2, e2, C2, F2⟩ := C1.w3 (x := w (fd1 + 1))
    have q3 : rdI h1 (c + 5) 6 3 = some (w fd1) := by rw [C1.q3]; exact congrArg some z7
    refine ⟨h2, ?_, ⟨_, C2, z4, z5, rfl, by rw [if_pos (by omega)]; rfl⟩, F1.trans F2⟩
    unfold f_X3_close
    simp only [L5', C.q2, z6, Option.bind_some, eW, e1, if_neg cy, q3, w_succ, e2]
theorem visit_ok (H : Sg B h a g) (hd : ∀ i, i ≤ 10 → ¬ ciW c (a + i)) : ∀ d v dep (q : PH) (T : Nat → Nat) mm P fd, v < gN g → T v = 0 → Dfs g T mm P fd → gN g ≤ mm + d → dep ≤ mm + 1 → (∀ x, P.testBit x = true → Rch g x v) → Se g q c T mm P fd → fr (ciW c) h q → ∃ q1 lo T1 mm1 P1 fd1, f_X3_visit d q (c + 5) a (w v) (w dep) = some (w lo, q1) ∧ Se g q1 c T1 mm1 P1 fd1 ∧ fr (ciW c) h q1 ∧ Dfs g T1 mm1 P1 fd1 ∧ Post g v T mm P T1 mm1 P1 lo := by
  have O := H.ok
  have hn := O.n
  intro d
  induction d with
  | zero =>
    intro v dep q T mm P fd hv h0 D hm
    have := D.room hv h0
    omega
  | succ d ihd =>
    intro v dep q T mm P fd hv h0 D hm hdep hr S F
    have ml := D.room hv h0
    have pl : P < 1024 := small10 hn D.pl
    obtain ⟨z, C, z4, z5, z6, z7⟩ := S
    obtain ⟨x1, e1, C1, F1⟩ := C.w1 (x := w (mm + 1))
    obtain ⟨x2, e2, C2, F2⟩ := C1.s4 (k := v) (x := w (mm + 1)) (by omega)
    obtain ⟨x3, e3, C3, F3⟩ := C2.w2 (x := w (P ||| 2 ^ v))
    have q1 : rdI x1 (c + 5) 6 1 = some (w (mm + 1)) := C1.q1
    have q2 : rdI x2 (c + 5) 6 2 = some (w P) := by rw [C2.q2]; exact congrArg some z6
    have S3 : Se g x3 c (fun x => if x = v then mm + 1 else T x) (mm + 1) (P ||| 2 ^ v) fd := by
      refine ⟨_, C3, fun k hk => ?_, rfl, rfl, z7⟩
      show upd (z 4) v (w (mm + 1)) k = w (if k = v then mm + 1 else T k)
      by_cases y : k = v
      · rw [y, upd_eq, if_pos rfl]
      · rw [upd_ne y, if_neg y]; exact z4 k hk
    have L0 := Lop.start D hv h0 hr
    have loop : ∀ e fu i (q1 : PH) (T1 : Nat → Nat) mm1 P1 fd1 lo, gN g - i = e → i ≤ gN g → e < fu → Lop g v T mm P T1 mm1 P1 fd1 lo i → Se g q1 c T1 mm1 P1 fd1 → fr (ciW c) h q1 → ∃ q2 T2 mm2 P2 fd2 lo2, f_X3_visit_L44 (f_X3_visit d) fu q1 (c + 5) a (w v) (w dep) (w (mm + 1)) (w lo) (w i) = some (w lo2, q2) ∧ Se g q2 c T2 mm2 P2 fd2 ∧ fr (ciW c) h q2 ∧ Lop g v T mm P T2 mm2 P2 fd2 lo2 (gN g) := by
      intro e
      induction e with
      | zero =>
        intro fu i q1 T1 mm1 P1 fd1 lo h1 h2 h3 L S F
        obtain ⟨fu, rfl⟩ : ∃ y, fu = y + 1 := ⟨fu - 1, by omega⟩
        have ei : i = gN g := by omega
        subst ei
        have Hq := H.ci F hd
        refine ⟨q1, T1, mm1, P1, fd1, lo, ?_, S, F, L⟩
        simp only [f_X3_visit_L44, Hq.i0, Option.bind_some, if_pos is_ge]
      | succ e ihe =>
        intro fu i q1 T1 mm1 P1 fd1 lo h1 h2 h3 L S F
        obtain ⟨fu, rfl⟩ : ∃ y, fu = y + 1 := ⟨fu - 1, by omega⟩
        have hi : i < gN g := by omega
        have Hq := H.ci F hd
        have D1 := L.1
        have gu := gU_lt O hv
        have tl := D1.le hi
        have ml1 := D1.mle
        have p1l : P1 < 1024 := small10 hn D1.pl
        obtain ⟨z, C, z4, z5, z6, z7⟩ := id S
        have lo1 : lo ≤ mm + 1 := L.2.2.2.2.2.2.2.2.2.2.2.1
        have e0 : (w (T1 i) = (0 : Int32)) = (T1 i = 0) := propext (w_inj (b := 0) (by omega) (by decide))
        simp only [f_X3_visit_L44, Hq.i0, Option.bind_some, if_neg (is_lt hi (by omega)), Hq.r4, Hq.a4 hv, has_w (show gU g v < 2147483648 by omega) (show i < 31 by omega), C.q0, C.a4 (show i < 10 by omega), z4 i hi, e0, C.q2, z6, has_w (show P1 < 2147483648 by omega) (show i < 31 by omega), min_ww (show lo < 2147483648 by omega) (show T1 i < 2147483648 by omega), w_succ]
        by_cases y : (gU g v).testBit i = true
        · rw [if_pos y]
          have ed : Ed g v i := ⟨hv, y⟩
          by_cases t0 : T1 i = 0
          · have room := D1.room hi t0
            have m1 := L.2.2.2.1
            have dl : ¬ (10 : Int32) ≤ w dep := fun x => by
              have := (w_le (a := 10) (b := dep) (by decide) (by omega)).mp x
              omega
            rw [if_neg (fun x => x t0), if_neg dl]
            obtain ⟨q2, l2, T2, mm2, P2, fd2, e2, S2, F2, D2, Q2⟩ := ihd i (dep + 1) q1 T1 mm1 P1 fd1 hi t0 D1 (by omega) (by omega) (fun x hx => L.pre D ed hx) S F
            have l2b : l2 ≤ mm1 + 1 := Q2.2.2.2.2.2.2.2.2.1
            rw [e2]
            simp only [Option.bind_some, min_ww (show lo < 2147483648 by omega) (show l2 < 2147483648 by omega)]
            exact ihe fu (i + 1) q2 T2 mm2 P2 fd2 (min lo l2) (by omega) (by omega) (by omega) (L.child D O hv ed t0 D2 Q2) S2 F2
          · rw [if_pos t0]
            cases b : P1.testBit i
            · rw [if_pos rfl]
              exact ihe fu (i + 1) q1 T1 mm1 P1 fd1 lo (by omega) (by omega) (by omega) (L.closed t0 b) S F
            · rw [if_neg (by decide)]
              exact ihe fu (i + 1) q1 T1 mm1 P1 fd1 (min lo (T1 i)) (by omega) (by omega) (by omega) (L.open_ D b ed) S F
        · rw [if_neg y]
          exact ihe fu (i + 1) q1 T1 mm1 P1 fd1 lo (by omega) (by omega) (by omega) (L.skip fun ed => y ed.2) S F
    have F' := ((F.trans F1).trans F2).trans F3
    obtain ⟨q9, T2, mm2, P2, fd2, lo2, el, S2, F4, L2⟩ := loop (gN g) FV 0 x3 _ (mm + 1) (P ||| 2 ^ v) fd (mm + 1) (by omega) (by omega) (by rw [FV_eq]; omega) L0 S3 F'
    have el' : f_X3_visit_L44 (f_X3_visit d) FV x3 (c + 5) a (w v) (w dep) (w (mm + 1)) (w (mm + 1)) (0 : Int32) = some (w lo2, q9) := el
    have eb : w P ||| f_X9_bit (w v) = w (P ||| 2 ^ v) := by rw [bit_w (by omega), w_or]
    have l2b : lo2 ≤ mm + 1 := L2.2.2.2.2.2.2.2.2.2.2.2.1
    have ec : (w lo2 = w (mm + 1)) = (lo2 = mm + 1) := propext (w_inj (by omega) (by omega))
    show ∃ q1 lo T1 mm1 P1 fd1, f_X3_visit_B (f_X3_visit d) q (c + 5) a (w v) (w dep) = some (w lo, q1) ∧ _
    unfold f_X3_visit_B
    simp only [C.q1, z5, Option.bind_some, w_succ, e1, q1, C1.q0, e2, q2, eb, e3, el', ec]
    by_cases y : lo2 = mm + 1
    · rw [if_neg (fun x => x y)]
      have H2 := H.ci F4 hd
      obtain ⟨q3, e4, S3', F5⟩ := close_ok H2 D L2 hv y S2 hd
      obtain ⟨D3, Q3⟩ := L2.close D O hv y
      obtain ⟨zz, C2', -⟩ := id S2
      refine ⟨q3, lo2, T2, mm2, P, _, ?_, S3', F4.trans F5, D3, Q3⟩
      simp only [ciS C2', Option.bind_some, e4]
    · rw [if_pos y]
      exact ⟨q9, lo2, T2, mm2, P2, fd2, rfl, S2, F4, L2.1, L2.leave O y⟩
theorem Dfs.none : Dfs g (fun _ => 0) 0 0 0 := by
  have z : ∀ n, cn (fun _ => false) n = 0 := fun n => by
    induction n with
    | zero => rfl
    | succ n ih => rw [cn_s, ih]; rfl
  refine ⟨fun _ _ => Nat.le_refl _, fun _ _ _ _ _ q => absurd rfl q, ?_, Nat.two_pow_pos _, fun k hk => by rw [Nat.zero_testBit] at hk; exact absurd hk (by decide), fun k j _ q => absurd rfl q, fun x y hx => by rw [Nat.zero_testBit] at hx; exact absurd hx (by decide), ?_⟩
  · exact Eq.trans (cn_ext fun k _ => rfl) (z (gN g))
  · refine (Eq.trans (cn_ext (q := fun _ => false) fun k _ => ?_) (z (gN g))).symm
    cases gOf g k <;> rfl
theorem run_ok (H : Sg B h a g) {z : CS} (C : CiC h c z) (hd : ∀ i, i ≤ 10 → ¬ ciW c (a + i)) : ∃ h1 z1, f_X3_run h (c + 5) a = some (w (gOc g), h1) ∧ CiC h1 c z1 ∧ fr (ciW c) h h1 := by
  have O := H.ok
  have hn := O.n
  obtain ⟨f1, e1, K1⟩ := fillA (b := c + 6) (Nat.le_trans C.kK (Nat.le_add_right _ _)) C.2.2.2.2.2.2.2.2 (by decide) 0
  have C1 := C.row4 f1
  have F1 : fr (ciW c) h (h.1, z_up h.2 (c + 6) (.inl (.int, 10, .inl f1))) := fr.up ⟨by omega, by omega⟩
  have T1 : ∀ k, k < 10 → setR z 4 f1 4 k = w 0 := fun t ht => by rw [setR_0]; exact K1 t ht
  generalize (h.1, z_up h.2 (c + 6) (.inl (.int, 10, .inl f1))) = h1 at *
  obtain ⟨x1, e2, C2, F2⟩ := C1.w1 (x := 0)
  obtain ⟨x2, e3, C3, F3⟩ := C2.w2 (x := 0)
  obtain ⟨x3, e4, C4, F4⟩ := C3.w3 (x := 0)
  have F0 := ((F1.trans F2).trans F3).trans F4
  have S0 : Se g x3 c (fun _ => 0) 0 0 0 := ⟨_, C4, fun k hk => T1 k (by omega), rfl, rfl, rfl⟩
  obtain ⟨h2, e5, ⟨T2, mm2, fd2, S2, D2, A2⟩, F5⟩ := sloop0 (fun fu k (q : PH) => f_X3_run_L25 fu q (c + 5) a (w k)) id (gN g) (fun k q => (∃ T mm fd, Se g q c T mm 0 fd ∧ Dfs g T mm 0 fd ∧ ∀ x, x < k → T x ≠ 0) ∧ fr (ciW c) h q) (by omega) (fun fu k q hk hI => by
    obtain ⟨⟨T, mm, fd, S, D, A⟩, F⟩ := hI
    have Hq := H.ci F hd
    obtain ⟨z, C, z4, z5, z6, z7⟩ := id S
    have tl := D.le hk
    have ml := D.mle
    have e0 : (w (T k) = (0 : Int32)) = (T k = 0) := propext (w_inj (b := 0) (by omega) (by decide))
    by_cases t0 : T k = 0
    · obtain ⟨q1, l1, T1, mm1, P1, fd1, e1, S1, F1, D1, Q1⟩ := visit_ok H hd 12 k 1 q T mm 0 fd hk t0 D (by omega) (by omega) (fun x hx => by rw [Nat.zero_testBit] at hx; exact absurd hx (by decide)) S F
      obtain ⟨ext, tv, m1, new, up, dn, N, -⟩ := Q1
      have p0 : P1 = 0 := Nat.eq_of_testBit_eq fun x => by
        rw [Nat.zero_testBit]
        cases y : P1.testBit x
        · rfl
        · obtain ⟨⟨u, u1, -⟩, -⟩ := N x y (Nat.zero_testBit x)
          rw [Nat.zero_testBit] at u1
          exact absurd u1 (by decide)
      subst p0
      refine ⟨q1, ?_, ⟨T1, mm1, fd1, S1, D1, fun x hx => ?_⟩, F1⟩
      · have e1' : f_X3_visit 12 q (c + 5) a (w k) (1 : Int32) = some (w l1, q1) := e1
        show f_X3_run_L25 (fu + 1) q (c + 5) a (w k) = f_X3_run_L25 fu q1 (c + 5) a (w (k + 1))
        simp only [f_X3_run_L25, Hq.i0, Option.bind_some, if_neg (is_lt hk (by omega)), C.q0, C.a4 (show k < 10 by omega), z4 k hk, e0, e1', w_succ]
        rw [if_neg (fun x => x t0)]
      · by_cases y : x = k
        · rw [y, tv]; omega
        · have := A x (by omega)
          rw [ext x (by omega) this]; exact this
    · refine ⟨q, ?_, ⟨T, mm, fd, S, D, fun x hx => ?_⟩, F⟩
      · show f_X3_run_L25 (fu + 1) q (c + 5) a (w k) = f_X3_run_L25 fu q (c + 5) a (w (k + 1))
        simp only [f_X3_run_L25, Hq.i0, Option.bind_some, if_neg (is_lt hk (by omega)), C.q0, C.a4 (show k < 10 by omega), z4 k hk, e0, w_succ]
        rw [if_pos t0]
      · by_cases y : x = k
        · rw [y]; exact t0
        · exact A x (by omega)) (fun fu q hI => by
    have Hq := H.ci hI.2 hd
    show f_X3_run_L25 (fu + 1) q (c + 5) a (w (gN g)) = some q
    simp only [f_X3_run_L25, Hq.i0, Option.bind_some, if_pos is_ge]) (k := 0) (s := x3) (Nat.zero_le _) ⟨⟨_, 0, 0, S0, Dfs.none, fun x hx => by omega⟩, F0⟩
  have e5' : f_X3_run_L25 FV x3 (c + 5) a (0 : Int32) = some h2 := e5
  have ef : fd2 = gOc g := by
    rw [D2.cnt]
    refine cn_ext fun k hk => ?_
    rw [decide_eq_true (A2 k hk), Nat.zero_testBit]
    simp
  obtain ⟨z2, C5, -, -, -, z7⟩ := S2
  refine ⟨h2, z2, ?_, C5, F5⟩
  unfold f_X3_run
  simp only [C.q0, Option.bind_some, e1, e2, e3, e4, e5', C5.q3, z7, ef]
theorem countByDepth_ok (H : Sg B h a g) {z : CS} (C : CiC h c z) (hd : ∀ i, i ≤ 10 → ¬ ciW c (a + i)) : ∃ h1 z1, f_X0_countByDepth h c a = some (w (gOc g), h1) ∧ CiC h1 c z1 ∧ fr (ciW c) h h1 := by
  obtain ⟨h1, z1, e1, C1, F1⟩ := run_ok H C hd
  refine ⟨h1, z1, ?_, C1, F1⟩
  unfold f_X0_countByDepth
  simp only [C.r4, Option.bind_some, ciS C, e1]
end DEPTH
