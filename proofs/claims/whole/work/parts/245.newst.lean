/-! A NEW STATE on the heap -/
section NEWST
variable {h : PH} {a k n lim ci : Nat} {ty : FieldType} {fs : List Value}
theorem nwr {q : PH} (ha : kK ≤ a) (hq : q.2 a = .inr (ci, fs)) (hlt : a < q.1) (hk : k < fs.length) (hn : n ≤ lim) (hl : lim < 2147483648) : ∃ x1 x2, nwI ty lim q (w n) = some x1 ∧ wr x1 a ci k (.ref q.1) = some x2 ∧ x2.1 = q.1 + 1 ∧ x2.2 a = .inr (ci, fs.set k (.ref q.1)) ∧ x2.2 q.1 = .inl (ty, n, .inl fun _ => 0) ∧ ∀ c, c ≠ a → c ≠ q.1 → x2.2 c = q.2 c := by
  have e1 := nwI_of (ty := ty) (h := q) hn hl
  have g1 : (q.1 + 1, z_up q.2 q.1 (.inl (ty, n, .inl fun _ => 0))).2 a = .inr (ci, fs) := (z_up_n _ _ (by omega)).trans hq
  have e2 := wr_of (v := .ref q.1) ha g1 hk
  exact ⟨_, _, e1, e2, rfl, z_up_s _ _ _, (z_up_n _ _ (by omega)).trans (z_up_s _ _ _), fun c c1 c2 => (z_up_n _ _ c1).trans (z_up_n _ _ c2)⟩
def st0 (f : Nat → Int32) : CS := fun r => if r = 14 then fun _ => 100 else if r = 6 then f else fun _ => 0
abbrev newF : List Value := [.int 0, .null, .null, .null, .null, .null, .null, .null, .int 0, .null, .null, .null, .int 0, .int 0, .int 0, .int 0, .int 0]
theorem init_ok (hh : kK ≤ h.1) : ∃ h' f, f_X7_init (nwO 9 newF h) h.1 = some h' ∧ StC h' h.1 (st0 f) ∧ (∀ i, i < 12 → f i = 20) ∧ h'.1 = h.1 + 11 ∧ ∀ c, c < h.1 → h'.2 c = h.2 c := by
  have q0 : (nwO 9 newF h).2 h.1 = .inr (9, newF) := z_up_s _ _ _
  have l0 : (nwO 9 newF h).1 = h.1 + 1 := rfl
  have o0 : ∀ c, c < h.1 → (nwO 9 newF h).2 c = h.2 c := fun c hc => z_up_n _ _ (by omega)
  unfold f_X7_init
  generalize nwO 9 newF h = p0 at *
  obtain ⟨y1, p1, e1, e1', l1, q1, c1, o1⟩ := nwr (ty := .int) (n := 10) (lim := 10) (k := 1) hh q0 (by omega) (by simp) (by decide) (by decide)
  obtain ⟨y2, p2, e2, e2', l2, q2, c2, o2⟩ := nwr (ty := .int) (n := 10) (lim := 10) (k := 2) hh q1 (by omega) (by simp) (by decide) (by decide)
  obtain ⟨y3, p3, e3, e3', l3, q3, c3, o3⟩ := nwr (ty := .char) (n := 10) (lim := 10) (k := 3) hh q2 (by omega) (by simp) (by decide) (by decide)
  obtain ⟨y4, p4, e4, e4', l4, q4, c4, o4⟩ := nwr (ty := .int) (n := 10) (lim := 10) (k := 4) hh q3 (by omega) (by simp) (by decide) (by decide)
  obtain ⟨y5, p5, e5, e5', l5, q5, c5, o5⟩ := nwr (ty := .int) (n := 12) (lim := 12) (k := 5) hh q4 (by omega) (by simp) (by decide) (by decide)
  obtain ⟨y6, p6, e6, e6', l6, q6, c6, o6⟩ := nwr (ty := .int) (n := 12) (lim := 12) (k := 6) hh q5 (by omega) (by simp) (by decide) (by decide)
  obtain ⟨y7, p7, e7, e7', l7, q7, c7, o7⟩ := nwr (ty := .int) (n := 12) (lim := 12) (k := 7) hh q6 (by omega) (by simp) (by decide) (by decide)
  obtain ⟨y8, p8, e8, e8', l8, q8, c8, o8⟩ := nwr (ty := .int) (n := 5) (lim := 5) (k := 9) hh q7 (by omega) (by simp) (by decide) (by decide)
  obtain ⟨y9, p9, e9, e9', l9, q9, c9, o9⟩ := nwr (ty := .int) (n := 5) (lim := 5) (k := 10) hh q8 (by omega) (by simp) (by decide) (by decide)
  obtain ⟨yA, pA, eA, eA', lA, qA, cA, oA⟩ := nwr (ty := .int) (n := 5) (lim := 5) (k := 11) hh q9 (by omega) (by simp) (by decide) (by decide)
  have w10 : (10 : Int32) = w 10 := rfl
  have w12 : (12 : Int32) = w 12 := rfl
  have w5 : (5 : Int32) = w 5 := rfl
  have eB := wr_of (k := 14) (v := .int (100 : Int32)) hh qA (by simp)
  have qB : (pA.1, z_up pA.2 h.1 (.inr (9, (((((((((((newF.set 1 (.ref p0.1)).set 2 (.ref p1.1)).set 3 (.ref p2.1)).set 4 (.ref p3.1)).set 5 (.ref p4.1)).set 6 (.ref p5.1)).set 7 (.ref p6.1)).set 9 (.ref p7.1)).set 10 (.ref p8.1)).set 11 (.ref p9.1)).set 14 (.int (100 : Int32)))))).2 h.1 = _ := z_up_s _ _ _
  have oB : ∀ c, c ≠ h.1 → (pA.1, z_up pA.2 h.1 (.inr (9, (((((((((((newF.set 1 (.ref p0.1)).set 2 (.ref p1.1)).set 3 (.ref p2.1)).set 4 (.ref p3.1)).set 5 (.ref p4.1)).set 6 (.ref p5.1)).set 7 (.ref p6.1)).set 9 (.ref p7.1)).set 10 (.ref p8.1)).set 11 (.ref p9.1)).set 14 (.int (100 : Int32)))))).2 c = pA.2 c := fun c hc => z_up_n _ _ hc
  have lB : (pA.1, z_up pA.2 h.1 (.inr (9, (((((((((((newF.set 1 (.ref p0.1)).set 2 (.ref p1.1)).set 3 (.ref p2.1)).set 4 (.ref p3.1)).set 5 (.ref p4.1)).set 6 (.ref p5.1)).set 7 (.ref p6.1)).set 9 (.ref p7.1)).set 10 (.ref p8.1)).set 11 (.ref p9.1)).set 14 (.int (100 : Int32)))))).1 = pA.1 := rfl
  generalize (pA.1, z_up pA.2 h.1 (.inr (9, (((((((((((newF.set 1 (.ref p0.1)).set 2 (.ref p1.1)).set 3 (.ref p2.1)).set 4 (.ref p3.1)).set 5 (.ref p4.1)).set 6 (.ref p5.1)).set 7 (.ref p6.1)).set 9 (.ref p7.1)).set 10 (.ref p8.1)).set 11 (.ref p9.1)).set 14 (.int (100 : Int32)))))) = pB at *
  have r6 : rdR pB h.1 9 6 = some p5.1 := rdR_of qB rfl
  have c6' : pB.2 p5.1 = .inl (.int, 12, .inl fun _ => 0) := by
    rw [oB _ (by omega), oA _ (by omega) (by omega), o9 _ (by omega) (by omega), o8 _ (by omega) (by omega), o7 _ (by omega) (by omega)]
    exact c6
  obtain ⟨f, eC, K⟩ := fillA (h := pB) (b := p5.1) (by omega) c6' (by decide) 20
  simp only [w10, w12, w5, e1, e1', e2, e2', e3, e3', e4, e4', e5, e5', e6, e6', e7, e7', e8, e8', e9, e9', eA, eA', eB, r6, eC, Option.bind_some]
  refine ⟨_, f, rfl, ⟨hh, ?_, ?_, ?_, ?_, ?_, ?_, ?_, ?_, ?_, ?_, ?_, ?_, fun k _ => rfl, Or.inl rfl⟩, K, ?_, fun c hc => ?_⟩
  · show h.1 + 10 < pB.1; omega
  · refine (z_up_n _ _ (by omega)).trans (qB.trans ?_)
    unfold stF
    rw [show h.1 + 1 = p0.1 by omega, show h.1 + 2 = p1.1 by omega, show h.1 + 3 = p2.1 by omega, show h.1 + 4 = p3.1 by omega, show h.1 + 5 = p4.1 by omega, show h.1 + 6 = p5.1 by omega, show h.1 + 7 = p6.1 by omega, show h.1 + 8 = p7.1 by omega, show h.1 + 9 = p8.1 by omega, show h.1 + 10 = p9.1 by omega]
    rfl
  · rw [show h.1 + 1 = p0.1 by omega]
    refine (z_up_n _ _ (by omega)).trans ?_
    rw [oB _ (by omega), oA _ (by omega) (by omega), o9 _ (by omega) (by omega), o8 _ (by omega) (by omega), o7 _ (by omega) (by omega), o6 _ (by omega) (by omega), o5 _ (by omega) (by omega), o4 _ (by omega) (by omega), o3 _ (by omega) (by omega), o2 _ (by omega) (by omega)]
    exact c1
  · rw [show h.1 + 2 = p1.1 by omega]
    refine (z_up_n _ _ (by omega)).trans ?_
    rw [oB _ (by omega), oA _ (by omega) (by omega), o9 _ (by omega) (by omega), o8 _ (by omega) (by omega), o7 _ (by omega) (by omega), o6 _ (by omega) (by omega), o5 _ (by omega) (by omega), o4 _ (by omega) (by omega), o3 _ (by omega) (by omega)]
    exact c2
  · rw [show h.1 + 3 = p2.1 by omega]
    refine (z_up_n _ _ (by omega)).trans ?_
    rw [oB _ (by omega), oA _ (by omega) (by omega), o9 _ (by omega) (by omega), o8 _ (by omega) (by omega), o7 _ (by omega) (by omega), o6 _ (by omega) (by omega), o5 _ (by omega) (by omega), o4 _ (by omega) (by omega)]
    exact c3
  · rw [show h.1 + 4 = p3.1 by omega]
    refine (z_up_n _ _ (by omega)).trans ?_
    rw [oB _ (by omega), oA _ (by omega) (by omega), o9 _ (by omega) (by omega), o8 _ (by omega) (by omega), o7 _ (by omega) (by omega), o6 _ (by omega) (by omega), o5 _ (by omega) (by omega)]
    exact c4
  · rw [show h.1 + 5 = p4.1 by omega]
    refine (z_up_n _ _ (by omega)).trans ?_
    rw [oB _ (by omega), oA _ (by omega) (by omega), o9 _ (by omega) (by omega), o8 _ (by omega) (by omega), o7 _ (by omega) (by omega), o6 _ (by omega) (by omega)]
    exact c5
  · rw [show h.1 + 6 = p5.1 by omega]
    exact z_up_s _ _ _
  · rw [show h.1 + 7 = p6.1 by omega]
    refine (z_up_n _ _ (by omega)).trans ?_
    rw [oB _ (by omega), oA _ (by omega) (by omega), o9 _ (by omega) (by omega), o8 _ (by omega) (by omega)]
    exact c7
  · rw [show h.1 + 8 = p7.1 by omega]
    refine (z_up_n _ _ (by omega)).trans ?_
    rw [oB _ (by omega), oA _ (by omega) (by omega), o9 _ (by omega) (by omega)]
    exact c8
  · rw [show h.1 + 9 = p8.1 by omega]
    refine (z_up_n _ _ (by omega)).trans ?_
    rw [oB _ (by omega), oA _ (by omega) (by omega)]
    exact c9
  · rw [show h.1 + 10 = p9.1 by omega]
    refine (z_up_n _ _ (by omega)).trans ?_
    rw [oB _ (by omega)]
    exact cA
  · show pB.1 = h.1 + 11; omega
  · refine (z_up_n _ _ (by omega)).trans ?_
    rw [oB _ (by omega), oA _ (by omega) (by omega), o9 _ (by omega) (by omega), o8 _ (by omega) (by omega), o7 _ (by omega) (by omega), o6 _ (by omega) (by omega), o5 _ (by omega) (by omega), o4 _ (by omega) (by omega), o3 _ (by omega) (by omega), o2 _ (by omega) (by omega), o1 _ (by omega) (by omega), o0 _ hc]
end NEWST
