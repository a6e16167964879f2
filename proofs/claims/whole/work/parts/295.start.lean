/-! THE START: both objects made -/
section START
variable {h : PH} {q : Nat → PC}
abbrev F9 : List Value := [.null, .null, .null, .null, .null, .null, .null, .null, .null]
abbrev F20 : List Value := [.null, .null, .null, .null, .int 0, .int 0, .int 0, .int 0, .int 0, .int 0, .int 0, .int 0, .null, .int 0, .int 0, .null, .int 0, .int 0, .null, .int 0]
/-- the row at the start -/
def gB : GS := fun i => if i = 4 then 100 else if 20 ≤ i ∧ i < 32 then 20 else 0
theorem gB_N : gN gB = 0 := rfl
theorem gB_M : gM gB = 0 := rfl
theorem gB_ok : Ok 0 gB := by
  refine ⟨by decide, rfl, by decide, rfl, by decide, rfl, by decide, Or.inl rfl, fun k hk => absurd hk (Nat.not_lt_zero k), fun p hp => ?_, fun k hk => absurd hk (Nat.not_lt_zero k), rfl⟩
  have e8 : gB (8 + p) = 0 := by
    unfold gB
    rw [if_neg (by omega), if_neg (by omega)]
  have e20 : gB (20 + p) = w 20 := by
    unfold gB
    rw [if_neg (by omega), if_pos (by omega)]
    rfl
  have e32 : gB (32 + p) = w 0 := by
    unfold gB
    rw [if_neg (by omega), if_neg (by omega)]
    rfl
  have q20 : gQ gB p = 20 := by unfold gQ; rw [e20]; exact nv_w (by decide)
  have q32 : gL gB p = 0 := by unfold gL; rw [e32]; exact nv_w (by decide)
  refine ⟨Or.inl e8, ?_, ?_, ?_, ?_⟩
  · rw [q20]; exact e20
  · omega
  · rw [q32]; exact e32
  · omega
theorem gB_rel {f : Nat → Int32} (K : ∀ i, i < 12 → f i = 20) : Rel (st0 f) gB := by
  refine ⟨rfl, rfl, rfl, rfl, rfl, rfl, rfl, fun k hk => absurd hk (Nat.not_lt_zero k), fun p hp => ⟨?_, ?_, ?_⟩, fun k hk => absurd hk (Nat.not_lt_zero k)⟩
  · show (0 : Int32) = gB (8 + p)
    unfold gB
    rw [if_neg (by omega), if_neg (by omega)]
  · show f p = gB (20 + p)
    unfold gB
    rw [K p hp, if_neg (by omega), if_pos (by omega)]
  · show (0 : Int32) = gB (32 + p)
    unfold gB
    rw [if_neg (by omega), if_neg (by omega)]
/-- the class's object made -/
theorem x9_new (hh : h.1 = 86) : ∃ h', f_X9_init (nwO 11 F9 h) 86 = some h' ∧ h'.1 = 131 ∧ (∀ c, c < 86 → h'.2 c = h.2 c) ∧ ∀ h2, (∀ c, c < 131 → h2.2 c = h'.2 c) → 140 < h2.1 → ∀ (K : Nat → GS) (l : Nat → Int32), IC 0 h2 gB K 0 none 0 0 0 tx0 l 0 := by
  have q0 : (nwO 11 F9 h).2 86 = .inr (11, F9) := by
    rw [← hh]; exact z_up_s _ _ _
  have l0 : (nwO 11 F9 h).1 = 87 := by show h.1 + 1 = 87; omega
  have o0 : ∀ c, c < 86 → (nwO 11 F9 h).2 c = h.2 c := fun c hc => z_up_n _ _ (by omega)
  unfold f_X9_init
  generalize nwO 11 F9 h = p0 at *
  have k0 : kK ≤ p0.1 := by show 86 ≤ p0.1; omega
  obtain ⟨p1, f1, e1, S1, K1, l1, o1⟩ := init_ok k0
  rw [l0] at S1 e1
  obtain ⟨p2, e2, l2, q2, G2⟩ := wro (p := p1) (k := 0) (v := .ref 87) ((o1 86 (by omega)).trans q0) (by decide)
  have k2 : kK ≤ p2.1 := by show 86 ≤ p2.1; omega
  obtain ⟨p3, f3, e3, S3, -, l3, o3⟩ := init_ok k2
  have n2 : p2.1 = 98 := by omega
  rw [n2] at S3 e3
  obtain ⟨p4, e4, l4, q4, G4⟩ := wro (p := p3) (k := 1) (v := .ref 98) ((o3 86 (by omega)).trans q2) (by decide)
  have k4 : kK ≤ p4.1 := by show 86 ≤ p4.1; omega
  obtain ⟨p5, e5, l5, H5, o5⟩ := hist_new k4
  have n4 : p4.1 = 109 := by omega
  rw [n4] at H5 e5
  obtain ⟨p6, e6, l6, q6, G6⟩ := wro (p := p5) (k := 2) (v := .ref 109) ((o5 86 (by omega)).trans q4) (by decide)
  have k6 : kK ≤ p6.1 := by show 86 ≤ p6.1; omega
  obtain ⟨p7, e7, l7, L7, o7⟩ := land_new k6
  have n6 : p6.1 = 111 := by omega
  rw [n6] at L7 e7
  obtain ⟨p8, e8, l8, q8, G8⟩ := wro (p := p7) (k := 3) (v := .ref 111) ((o7 86 (by omega)).trans q6) (by decide)
  have k8 : kK ≤ p8.1 := by show 86 ≤ p8.1; omega
  obtain ⟨p9, e9, l9, C9, o9⟩ := cit_new k8
  have n8 : p8.1 = 114 := by omega
  rw [n8] at C9 e9
  obtain ⟨pA, eA, lA, qA, GA⟩ := wro (p := p9) (k := 4) (v := .ref 114) ((o9 86 (by omega)).trans q8) (by decide)
  have kA : kK ≤ pA.1 := by show 86 ≤ pA.1; omega
  obtain ⟨pB, eB, lB, TB, oB⟩ := text_new kA
  have nA : pA.1 = 121 := by omega
  rw [nA] at TB eB
  obtain ⟨pC, eC, lC, qC, GC⟩ := wro (p := pB) (k := 5) (v := .ref 121) ((oB 86 (by omega)).trans qA) (by decide)
  have nC : pC.1 = 128 := by omega
  have oD : ∀ c, c < pC.1 → (nwO 5 [.int 0, .int 0, .int 0] pC).2 c = pC.2 c := fun c hc => z_up_n _ _ (by omega)
  have dD : (nwO 5 [.int 0, .int 0, .int 0] pC).2 128 = .inr (5, [.int 0, .int 0, .int 0]) := by rw [← nC]; exact z_up_s _ _ _
  have lD : (nwO 5 [.int 0, .int 0, .int 0] pC).1 = 129 := by show pC.1 + 1 = 129; omega
  generalize hD : nwO 5 [.int 0, .int 0, .int 0] pC = pD at *
  obtain ⟨pE, eE, lE, qE, GE⟩ := wro (p := pD) (k := 6) (v := .ref 128) ((oD 86 (by omega)).trans qC) (by decide)
  have kE : kK ≤ pE.1 := by show 86 ≤ pE.1; omega
  obtain ⟨pF, eF', lF, bF, cF, oF⟩ := sb_new kE
  have nE : pE.1 = 129 := by omega
  rw [nE] at bF cF eF'
  obtain ⟨pG, eG, lG, qG, GG⟩ := wro (p := pF) (k := 7) (v := .ref 129) ((oF 86 (by omega)).trans qE) (by decide)
  have FD : fr (fun x => x = 86) p1 p2 := G2
  have f34 : fr (fun x => x = 86) p2 p4 := (frN (by omega) o3).trans G4
  have f46 : fr (fun x => x = 86) p4 p6 := (frN (by omega) o5).trans G6
  have f68 : fr (fun x => x = 86) p6 p8 := (frN (by omega) o7).trans G8
  have f8A : fr (fun x => x = 86) p8 pA := (frN (by omega) o9).trans GA
  have fAC : fr (fun x => x = 86) pA pC := (frN (by omega) oB).trans GC
  have fCE : fr (fun x => x = 86) pC pE := (frN (by omega) (fun c hc => oD c (by omega))).trans GE
  have fEG : fr (fun x => x = 86) pE pG := (frN (by omega) oF).trans GG
  have r1 : fr (fun x => x = 86) p0 p1 := frN (by omega) o1
  refine ⟨pG, ?_, by omega, fun c hc => ?_, fun h2 hq hl K l => ?_⟩
  · simp only [l0, e1, e2, n2, e3, e4, n4, e5, e6, n6, e7, e8, n8, e9, eA, nA, eB, eC, nC, hD, eE, nE, eF', eG, Option.bind_some]
  · have F := (((((((r1.trans FD).trans f34).trans f46).trans f68).trans f8A).trans fAC).trans fCE).trans fEG
    exact (F.2 c (by omega) (by omega)).trans (o0 c hc)
  · have gG : fr (fun x => x = 86) pG h2 := ⟨by omega, fun c hc _ => hq c (by omega)⟩
    have u8 : fr (fun x => x = 86) pE h2 := fEG.trans gG
    have u7 : fr (fun x => x = 86) pC h2 := fCE.trans u8
    have u6 : fr (fun x => x = 86) pA h2 := fAC.trans u7
    have u5 : fr (fun x => x = 86) p8 h2 := f8A.trans u6
    have u4 : fr (fun x => x = 86) p6 h2 := f68.trans u5
    have u3 : fr (fun x => x = 86) p4 h2 := f46.trans u4
    have u2 : fr (fun x => x = 86) p2 h2 := f34.trans u3
    have u1 : fr (fun x => x = 86) p1 h2 := FD.trans u2
    refine ⟨0, fun _ => none, none, 130, _, _, _, _, ⟨hl, (hq 86 (by omega)).trans qG⟩, ⟨gB_ok, _, S1.frm u1 (fun i hi => by omega), gB_rel K1⟩, S3.frm (G4.trans u3) (fun i hi => by omega), H5.frm (G6.trans u4) (by omega) (by omega), ⟨by decide, by decide, fun j hj a ha => absurd ha (by simp), fun j k hj hk hjk a b ha => absurd ha (by simp), fun i hi => absurd hi (Nat.not_lt_zero i)⟩, L7.frm (G8.trans u5) (fun i hi => by omega), C9.frm (GA.trans u6) (fun i hi => by omega), TB.frm (GC.trans u7) (fun i hi => by omega), ⟨by decide, by omega, ((GE.trans u8).2 128 (by omega) (by omega)).trans dD⟩, ⟨Or.inl rfl, by omega, by decide, 0, 16, fun _ => 0, ((GG.trans gG).2 129 (by omega) (by omega)).trans bF, ((GG.trans gG).2 130 (by omega) (by omega)).trans cF, by decide, Or.inl rfl, fun i hi => ⟨0, by decide, rfl⟩, fun i hi => absurd hi (Nat.not_lt_zero i)⟩, Or.inl ⟨rfl, rfl⟩, fun x hx => ?_, fun x hx => ?_⟩
    · obtain ⟨j, hj, a, ha, -⟩ := hx
      exact absurd ha (by simp)
    · obtain ⟨s, hs, -⟩ := hx
      exact absurd hs (by simp)
abbrev mo0 : CS := fun j => if j = 14 then fun _ => -1 else fun _ => 0
/-- the reference's object made -/
theorem x10_new (hh : h.1 = 131) : ∃ h', f_X10_init (nwO 12 F20 h) 131 = some h' ∧ h'.1 = 139 ∧ (∀ c, c < 131 → h'.2 c = h.2 c) ∧ MoC h' 131 (setR mo0 0 gB) := by
  have q0 : (nwO 12 F20 h).2 131 = .inr (12, F20) := by rw [← hh]; exact z_up_s _ _ _
  have l0 : (nwO 12 F20 h).1 = 132 := by show h.1 + 1 = 132; omega
  have o0 : ∀ c, c < 131 → (nwO 12 F20 h).2 c = h.2 c := fun c hc => z_up_n _ _ (by omega)
  have k131 : kK ≤ 131 := by decide
  unfold f_X10_init
  generalize nwO 12 F20 h = p0 at *
  obtain ⟨y1, p1, e1, e1', l1, q1, c1, o1⟩ := nwr (ty := .int) (n := 99) (lim := 99) (k := 0) k131 q0 (by omega) (by simp) (by decide) (by decide)
  obtain ⟨y2, p2, e2, e2', l2, q2, c2, o2⟩ := nwr (ty := .int) (n := 792) (lim := 792) (k := 1) k131 q1 (by omega) (by simp) (by decide) (by decide)
  obtain ⟨y3, p3, e3, e3', l3, q3, c3, o3⟩ := nwr (ty := .int) (n := 99) (lim := 99) (k := 2) k131 q2 (by omega) (by simp) (by decide) (by decide)
  obtain ⟨y4, p4, e4, e4', l4, q4, c4, o4⟩ := nwr (ty := .int) (n := 99) (lim := 99) (k := 3) k131 q3 (by omega) (by simp) (by decide) (by decide)
  obtain ⟨y5, p5, e5, e5', l5, q5, c5, o5⟩ := nwr (ty := .int) (n := 60) (lim := 60) (k := 12) k131 q4 (by omega) (by simp) (by decide) (by decide)
  have e6 := wr_of (h := p5) (k := 14) (v := .int (-1 : Int32)) k131 q5 (by simp)
  have n0 : p0.1 = 132 := l0
  have n1 : p1.1 = 133 := by omega
  have n2 : p2.1 = 134 := by omega
  have n3 : p3.1 = 135 := by omega
  have n4 : p4.1 = 136 := by omega
  have n5 : p5.1 = 137 := by omega
  simp only [n0, n1, n2, n3, n4, n5] at e1 e1' q1 c1 o1 e2 e2' q2 c2 o2 e3 e3' q3 c3 o3 e4 e4' q4 c4 o4 e5 e5' q5 c5 o5 e6
  have q6 : ((137 : Nat), z_up p5.2 131 (.inr (12, (((((F20.set 0 (.ref 132)).set 1 (.ref 133)).set 2 (.ref 134)).set 3 (.ref 135)).set 12 (.ref 136)).set 14 (.int (-1 : Int32))))).2 131 = _ := z_ups _ _ _ _
  have o6 : ∀ c, c ≠ 131 → ((137 : Nat), z_up p5.2 131 (.inr (12, (((((F20.set 0 (.ref 132)).set 1 (.ref 133)).set 2 (.ref 134)).set 3 (.ref 135)).set 12 (.ref 136)).set 14 (.int (-1 : Int32))))).2 c = p5.2 c := fun c hc => z_up_n _ _ hc
  have n6 : ((137 : Nat), z_up p5.2 131 (.inr (12, (((((F20.set 0 (.ref 132)).set 1 (.ref 133)).set 2 (.ref 134)).set 3 (.ref 135)).set 12 (.ref 136)).set 14 (.int (-1 : Int32))))).1 = 137 := rfl
  generalize ((137 : Nat), z_up p5.2 131 (.inr (12, (((((F20.set 0 (.ref 132)).set 1 (.ref 133)).set 2 (.ref 134)).set 3 (.ref 135)).set 12 (.ref 136)).set 14 (.int (-1 : Int32))))) = p6 at *
  obtain ⟨y7, p7, e7, e7', l7, q7, c7, o7⟩ := nwr (ty := .char) (n := 60) (lim := 60) (k := 15) k131 q6 (by omega) (by simp) (by decide) (by decide)
  obtain ⟨y8, p8, e8, e8', l8, q8, c8, o8⟩ := nwr (ty := .int) (n := 124) (lim := 124) (k := 18) k131 q7 (by omega) (by simp) (by decide) (by decide)
  have n7 : p7.1 = 138 := by omega
  simp only [n6, n7] at e7 e7' q7 c7 o7 e8 e8' q8 c8 o8
  have M8 : MoC p8 131 mo0 := by
    refine ⟨k131, by omega, q8, ?_, ?_, ?_, ?_, ?_, ?_, c8⟩
    · exact (o8 _ (by decide) (by decide)).trans ((o7 _ (by decide) (by decide)).trans ((o6 _ (by decide)).trans ((o5 _ (by decide) (by decide)).trans ((o4 _ (by decide) (by decide)).trans ((o3 _ (by decide) (by decide)).trans ((o2 _ (by decide) (by decide)).trans c1))))))
    · exact (o8 _ (by decide) (by decide)).trans ((o7 _ (by decide) (by decide)).trans ((o6 _ (by decide)).trans ((o5 _ (by decide) (by decide)).trans ((o4 _ (by decide) (by decide)).trans ((o3 _ (by decide) (by decide)).trans c2)))))
    · exact (o8 _ (by decide) (by decide)).trans ((o7 _ (by decide) (by decide)).trans ((o6 _ (by decide)).trans ((o5 _ (by decide) (by decide)).trans ((o4 _ (by decide) (by decide)).trans c3))))
    · exact (o8 _ (by decide) (by decide)).trans ((o7 _ (by decide) (by decide)).trans ((o6 _ (by decide)).trans ((o5 _ (by decide) (by decide)).trans c4)))
    · exact (o8 _ (by decide) (by decide)).trans ((o7 _ (by decide) (by decide)).trans ((o6 _ (by decide)).trans c5))
    · exact (o8 _ (by decide) (by decide)).trans c7
  obtain ⟨p9, e9, ⟨r, M9, K9⟩, F9'⟩ := sloop0 (fun fu k (q : PH) => f_X10_init_L68 fu q 131 (w k)) id 12 (fun k q => (∃ r, MoC q 131 (setR mo0 0 r) ∧ ∀ i, r i = if 20 ≤ i ∧ i < 20 + k then 20 else 0) ∧ fr (mW 131) p8 q ∧ q.1 = p8.1) (by decide) (fun fu k q hk hI => by
    obtain ⟨⟨r, Mq, Kq⟩, Fq, lq⟩ := hI
    obtain ⟨q1, d1, M1, F1⟩ := mput Mq (i := 20 + k) 20 (by omega)
    have d1' : asI .int q (131 + 1) ((20 : Int32) + w k) (20 : Int32) = some q1 := by
      show asI .int q (131 + 1) (w 20 + w k) (20 : Int32) = _
      rw [w_add]; exact d1
    refine ⟨q1, ?_, ⟨_, M1, fun i => ?_⟩, Fq.trans F1, ?_⟩
    · show f_X10_init_L68 (fu + 1) q 131 (w k) = f_X10_init_L68 fu q1 131 (w (k + 1))
      simp only [f_X10_init_L68, if_neg (show ¬ (12 : Int32) ≤ w k from lt_199 (n := 12) hk (by decide)), Mq.r0, d1', w_succ, Option.bind_some]
    · unfold upd
      by_cases z : i = 20 + k
      · rw [if_pos z, if_pos (by omega)]
      · rw [if_neg z, Kq]
        by_cases y : 20 ≤ i ∧ i < 20 + k
        · rw [if_pos y, if_pos (by omega)]
        · rw [if_neg y, if_neg (by omega)]
    · have a0 := asI_of (h := q) (a := 131 + 1) (k := 20 + k) (x := 20) (by decide) Mq.c0 (by decide) (by omega)
      rw [d1] at a0
      rw [Option.some.inj a0]
      exact lq) (fun fu q hI => by
    show f_X10_init_L68 (fu + 1) q 131 (w 12) = some q
    simp only [f_X10_init_L68, if_pos (show (12 : Int32) ≤ w 12 from is_ge)]) (k := 0) (s := p8) (Nat.zero_le _) ⟨⟨fun _ => 0, by
      have : setR mo0 0 (fun _ => 0) = mo0 := setR_id mo0 0
      rw [this]; exact M8, fun i => by rw [if_neg (by omega)]⟩, fr.refl _ _, rfl⟩
  obtain ⟨F9', l9⟩ := F9'
  obtain ⟨pA, eA, MA, FA⟩ := mput M9 (i := 4) 100 (by decide)
  have aA := asI_of (h := p9) (a := 131 + 1) (k := 4) (x := 100) (by decide) M9.c0 (by decide) (by decide)
  have eA' : asI .int p9 (131 + 1) (4 : Int32) (100 : Int32) = some pA := eA
  have lA : pA.1 = p9.1 := by
    rw [eA] at aA
    rw [Option.some.inj aA]
  have e9' : f_X10_init_L68 FV p8 131 (0 : Int32) = some p9 := e9
  have w1 : (99 : Int32) = w 99 := rfl
  have w2 : (792 : Int32) = w 792 := rfl
  have w3 : (60 : Int32) = w 60 := rfl
  have w4 : (124 : Int32) = w 124 := rfl
  refine ⟨pA, ?_, by omega, fun c hc => ?_, ?_⟩
  · simp only [w1, w2, w3, w4, e1, e1', e2, e2', e3, e3', e4, e4', e5, e5', e6, e7, e7', e8, e8', e9', M9.r0, eA', n0, n1, n2, n3, n4, n5, n6, n7, Option.bind_some]
  · have no : ∀ {c}, c < 131 → ¬ mW 131 c := fun hc z => by have := z.1; omega
    rw [FA.2 c (by omega) (no hc), F9'.2 c (by omega) (no hc), o8 _ (by omega) (by omega), o7 _ (by omega) (by omega), o6 _ (by omega), o5 _ (by omega) (by omega), o4 _ (by omega) (by omega), o3 _ (by omega) (by omega), o2 _ (by omega) (by omega), o1 _ (by omega) (by omega)]
    exact o0 c hc
  · have : upd r 4 100 = gB := by
      funext i
      unfold upd gB
      by_cases z : i = 4
      · rw [if_pos z, if_pos z]
      · rw [if_neg z, if_neg z, K9]
    rw [← this]; exact MA
/-- what holds when the law's loop begins -/
theorem start_inv (hh : h.1 = 86) : ∃ h1 h2 h3 h4, f_X9_init (nwO 11 F9 h) 86 = some h1 ∧ h1.1 = 131 ∧ f_X10_init (nwO 12 F20 h1) 131 = some h2 ∧ h2.1 = 139 ∧ nwL 1 h2 (1 : Int32) = some h3 ∧ h3.1 = 140 ∧ nwD 1 h3 (1 : Int32) = some h4 ∧ h4.1 = 141 ∧ Inv 0 h.2 h4 := by
  obtain ⟨h1, e1, l1, o1, I1⟩ := x9_new hh
  obtain ⟨h2, e2, l2, o2, M2⟩ := x10_new l1
  have e3 : nwL 1 h2 (1 : Int32) = some (h2.1 + 1, z_up h2.2 h2.1 (.inl (.long, 1, .inr (.inl fun _ => 0)))) := by
    unfold nwL
    rw [if_neg (by decide)]
    rfl
  have e4 : nwD 1 (h2.1 + 1, z_up h2.2 h2.1 (.inl (.long, 1, .inr (.inl fun _ => 0)))) (1 : Int32) = some (h2.1 + 1 + 1, z_up (z_up h2.2 h2.1 (.inl (.long, 1, .inr (.inl fun _ => 0)))) (h2.1 + 1) (.inl (.double, 1, .inr (.inr (.inr (.inl fun _ => 0)))))) := by
    unfold nwD
    rw [if_neg (by decide)]
    rfl
  have oo : ∀ c, c < 139 → (h2.1 + 1 + 1, z_up (z_up h2.2 h2.1 (.inl (.long, 1, .inr (.inl fun _ => 0)))) (h2.1 + 1) (.inl (.double, 1, .inr (.inr (.inr (.inl fun _ => 0)))))).2 c = h2.2 c := fun c hc => (z_up_n _ _ (by omega)).trans (z_up_n _ _ (by omega))
  have oL : (h2.1 + 1 + 1, z_up (z_up h2.2 h2.1 (.inl (.long, 1, .inr (.inl fun _ => 0)))) (h2.1 + 1) (.inl (.double, 1, .inr (.inr (.inr (.inl fun _ => 0)))))).2 139 = .inl (.long, 1, .inr (.inl fun _ => 0)) := by
    rw [← l2]
    exact (z_up_n _ _ (by omega)).trans (z_up_s _ _ _)
  have oD : (h2.1 + 1 + 1, z_up (z_up h2.2 h2.1 (.inl (.long, 1, .inr (.inl fun _ => 0)))) (h2.1 + 1) (.inl (.double, 1, .inr (.inr (.inr (.inl fun _ => 0)))))).2 140 = .inl (.double, 1, .inr (.inr (.inr (.inl fun _ => 0)))) := by
    rw [show (140 : Nat) = h2.1 + 1 by omega]
    exact z_up_s _ _ _
  have l4 : (h2.1 + 1 + 1, z_up (z_up h2.2 h2.1 (.inl (.long, 1, .inr (.inl fun _ => 0)))) (h2.1 + 1) (.inl (.double, 1, .inr (.inr (.inr (.inl fun _ => 0)))))).1 = 141 := by show h2.1 + 1 + 1 = 141; omega
  refine ⟨h1, h2, _, _, e1, l1, e2, l2, e3, by show h2.1 + 1 = 140; omega, e4, l4, ?_⟩
  generalize (h2.1 + 1 + 1, z_up (z_up h2.2 h2.1 (.inl (.long, 1, .inr (.inl fun _ => 0)))) (h2.1 + 1) (.inl (.double, 1, .inr (.inr (.inr (.inl fun _ => 0)))))) = h4 at *
  refine ⟨⟨by omega, fun c hc => (oo c (by omega)).trans ((o2 c (by omega)).trans (o1 c hc))⟩, ⟨by omega, _, oL⟩, ⟨by omega, _, oD⟩, gB, fun _ => gB, 0, none, 0, 0, 0, tx0, fun _ => 0, 0, _, I1 h4 (fun c hc => (oo c (by omega)).trans (o2 c hc)) (by omega) _ _, M2.eqs (by omega) (fun i hi => oo _ (by omega)), rfl, ⟨by decide, rfl, fun i hi => absurd hi (Nat.not_lt_zero i)⟩, rfl, Or.inl ⟨rfl, rfl⟩, ⟨rfl, rfl, rfl, fun _ => rfl⟩, ⟨0, by decide, rfl, rfl, fun i hi => absurd hi (Nat.not_lt_zero i)⟩, rfl, rfl, fun i hi => absurd hi (Nat.not_lt_zero i)⟩
end START
