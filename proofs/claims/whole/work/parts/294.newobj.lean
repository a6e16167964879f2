/-! THE CONSTRUCTORS -/
section NEWOBJ
variable {h : PH} {q : Nat → PC} {B : Nat}
theorem frN {h h' : PH} (hl : h.1 ≤ h'.1) (ho : ∀ c, c < h.1 → h'.2 c = h.2 c) : fr (fun x => x = 86) h h' := ⟨hl, fun c hc _ => ho c hc⟩
theorem hist_new (hh : kK ≤ h.1) : ∃ h', f_X4_init (nwO 7 [.null, .int 0, .int 0] h) h.1 = some h' ∧ h'.1 = h.1 + 2 ∧ HiC h' h.1 0 0 (fun _ => none) ∧ ∀ c, c < h.1 → h'.2 c = h.2 c := by
  have q0 : (nwO 7 [.null, .int 0, .int 0] h).2 h.1 = .inr (7, [.null, .int 0, .int 0]) := z_up_s _ _ _
  have l0 : (nwO 7 [.null, .int 0, .int 0] h).1 = h.1 + 1 := rfl
  have o0 : ∀ c, c < h.1 → (nwO 7 [.null, .int 0, .int 0] h).2 c = h.2 c := fun c hc => z_up_n _ _ (by omega)
  unfold f_X4_init
  generalize nwO 7 [.null, .int 0, .int 0] h = p0 at *
  have e1 : nwQ 8 p0 (8 : Int32) = some (p0.1 + 1, z_up p0.2 p0.1 (.inl (tyS, 8, .inr (.inr (.inr (.inr fun _ => none)))))) := by
    unfold nwQ
    rw [if_neg (by decide)]
    rfl
  have e2 := wr_of (h := (p0.1 + 1, z_up p0.2 p0.1 (.inl (tyS, 8, .inr (.inr (.inr (.inr fun _ => none))))))) (v := .ref p0.1) hh ((z_up_n _ _ (by omega)).trans q0) (show 0 < 3 by decide)
  refine ⟨_, by rw [e1, Option.bind_some, e2, Option.bind_some], by show p0.1 + 1 = _; omega, ⟨hh, by show h.1 + 1 < p0.1 + 1; omega, ?_, ?_⟩, fun c hc => ?_⟩
  · refine (z_up_s _ _ _).trans ?_
    rw [show p0.1 = h.1 + 1 from l0]
    rfl
  · rw [show h.1 + 1 = p0.1 from l0.symm]
    exact (z_up_n _ _ (by omega)).trans (z_up_s _ _ _)
  · exact ((z_up_n _ _ (by omega)).trans (z_up_n _ _ (by omega))).trans (o0 c hc)
theorem land_new (hh : kK ≤ h.1) : ∃ h', f_X6_init (nwO 8 [.null, .null] h) h.1 = some h' ∧ h'.1 = h.1 + 3 ∧ LaC h' h.1 (fun _ => 0) (fun _ => 0) ∧ ∀ c, c < h.1 → h'.2 c = h.2 c := by
  have q0 : (nwO 8 [.null, .null] h).2 h.1 = .inr (8, [.null, .null]) := z_up_s _ _ _
  have l0 : (nwO 8 [.null, .null] h).1 = h.1 + 1 := rfl
  have o0 : ∀ c, c < h.1 → (nwO 8 [.null, .null] h).2 c = h.2 c := fun c hc => z_up_n _ _ (by omega)
  unfold f_X6_init
  generalize nwO 8 [.null, .null] h = p0 at *
  obtain ⟨y1, p1, e1, e1', l1, q1, c1, o1⟩ := nwr (ty := .int) (n := 199) (lim := 199) (k := 0) hh q0 (by omega) (by simp) (by decide) (by decide)
  obtain ⟨y2, p2, e2, e2', l2, q2, c2, o2⟩ := nwr (ty := .int) (n := 12) (lim := 12) (k := 1) hh q1 (by omega) (by simp) (by decide) (by decide)
  have w1 : (199 : Int32) = w 199 := rfl
  have w2 : (12 : Int32) = w 12 := rfl
  refine ⟨p2, by simp only [w1, w2, e1, e1', e2, e2', Option.bind_some], by omega, ⟨hh, by omega, ?_, ?_, ?_⟩, fun c hc => ?_⟩
  · rw [q2, show h.1 + 1 = p0.1 by omega, show h.1 + 2 = p1.1 by omega]; rfl
  · rw [show h.1 + 1 = p0.1 by omega, o2 _ (by omega) (by omega)]; exact c1
  · rw [show h.1 + 2 = p1.1 by omega]; exact c2
  · rw [o2 _ (by omega) (by omega), o1 _ (by omega) (by omega)]; exact o0 c hc
theorem dfs_new (hh : kK ≤ h.1) : ∃ h', f_X3_init (nwO 6 [.null, .int 0, .int 0, .int 0] h) h.1 = some h' ∧ h'.1 = h.1 + 2 ∧ h'.2 h.1 = .inr (6, [.ref (h.1 + 1), .int 0, .int 0, .int 0]) ∧ h'.2 (h.1 + 1) = .inl (.int, 10, .inl fun _ => 0) ∧ ∀ c, c < h.1 → h'.2 c = h.2 c := by
  have q0 : (nwO 6 [.null, .int 0, .int 0, .int 0] h).2 h.1 = .inr (6, [.null, .int 0, .int 0, .int 0]) := z_up_s _ _ _
  have l0 : (nwO 6 [.null, .int 0, .int 0, .int 0] h).1 = h.1 + 1 := rfl
  have o0 : ∀ c, c < h.1 → (nwO 6 [.null, .int 0, .int 0, .int 0] h).2 c = h.2 c := fun c hc => z_up_n _ _ (by omega)
  unfold f_X3_init
  generalize nwO 6 [.null, .int 0, .int 0, .int 0] h = p0 at *
  obtain ⟨y1, p1, e1, e1', l1, q1, c1, o1⟩ := nwr (ty := .int) (n := 10) (lim := 10) (k := 0) hh q0 (by omega) (by simp) (by decide) (by decide)
  have w1 : (10 : Int32) = w 10 := rfl
  refine ⟨p1, by simp only [w1, e1, e1', Option.bind_some], by omega, ?_, ?_, fun c hc => ?_⟩
  · rw [q1, show h.1 + 1 = p0.1 by omega]; rfl
  · rw [show h.1 + 1 = p0.1 by omega]; exact c1
  · rw [o1 _ (by omega) (by omega)]; exact o0 c hc
theorem cit_new (hh : kK ≤ h.1) : ∃ h', f_X0_init (nwO 4 [.null, .null, .null, .null, .null] h) h.1 = some h' ∧ h'.1 = h.1 + 7 ∧ CiC h' h.1 (fun _ _ => 0) ∧ ∀ c, c < h.1 → h'.2 c = h.2 c := by
  have q0 : (nwO 4 [.null, .null, .null, .null, .null] h).2 h.1 = .inr (4, [.null, .null, .null, .null, .null]) := z_up_s _ _ _
  have l0 : (nwO 4 [.null, .null, .null, .null, .null] h).1 = h.1 + 1 := rfl
  have o0 : ∀ c, c < h.1 → (nwO 4 [.null, .null, .null, .null, .null] h).2 c = h.2 c := fun c hc => z_up_n _ _ (by omega)
  unfold f_X0_init
  generalize nwO 4 [.null, .null, .null, .null, .null] h = p0 at *
  obtain ⟨y1, p1, e1, e1', l1, q1, c1, o1⟩ := nwr (ty := .int) (n := 10) (lim := 10) (k := 0) hh q0 (by omega) (by simp) (by decide) (by decide)
  obtain ⟨y2, p2, e2, e2', l2, q2, c2, o2⟩ := nwr (ty := .int) (n := 10) (lim := 10) (k := 1) hh q1 (by omega) (by simp) (by decide) (by decide)
  obtain ⟨y3, p3, e3, e3', l3, q3, c3, o3⟩ := nwr (ty := .int) (n := 10) (lim := 10) (k := 2) hh q2 (by omega) (by simp) (by decide) (by decide)
  obtain ⟨y4, p4, e4, e4', l4, q4, c4, o4⟩ := nwr (ty := .int) (n := 10) (lim := 10) (k := 3) hh q3 (by omega) (by simp) (by decide) (by decide)
  obtain ⟨p5, e5, l5, q5, c5, o5⟩ := dfs_new (h := p4) (by show 86 ≤ p4.1; have : 86 ≤ h.1 := hh; omega)
  have e6 := wr_of (h := p5) (k := 4) (v := .ref p4.1) hh ((o5 _ (by omega)).trans q4) (by simp)
  have w1 : (10 : Int32) = w 10 := rfl
  obtain ⟨p6, e6', l6, q6, o6⟩ : ∃ p6, wr p5 h.1 4 4 (.ref p4.1) = some p6 ∧ p6.1 = p5.1 ∧ p6.2 h.1 = .inr (4, ((((([Value.null, .null, .null, .null, .null].set 0 (.ref p0.1)).set 1 (.ref p1.1)).set 2 (.ref p2.1)).set 3 (.ref p3.1)).set 4 (.ref p4.1))) ∧ ∀ c, c ≠ h.1 → p6.2 c = p5.2 c := ⟨_, e6, rfl, z_ups _ _ _ _, fun c hc => z_up_n _ _ hc⟩
  refine ⟨p6, by simp only [w1, e1, e1', e2, e2', e3, e3', e4, e4', e5, e6', Option.bind_some], by omega, ⟨hh, by omega, ?_, ?_, ?_, ?_, ?_, ?_, ?_⟩, fun c hc => ?_⟩
  · refine q6.trans ?_
    unfold ciF
    rw [show h.1 + 1 = p0.1 by omega, show h.1 + 2 = p1.1 by omega, show h.1 + 3 = p2.1 by omega, show h.1 + 4 = p3.1 by omega, show h.1 + 5 = p4.1 by omega]
    rfl
  · rw [show h.1 + 1 = p0.1 by omega]
    refine (o6 _ (by omega)).trans ?_
    rw [o5 _ (by omega), o4 _ (by omega) (by omega), o3 _ (by omega) (by omega), o2 _ (by omega) (by omega)]; exact c1
  · rw [show h.1 + 2 = p1.1 by omega]
    refine (o6 _ (by omega)).trans ?_
    rw [o5 _ (by omega), o4 _ (by omega) (by omega), o3 _ (by omega) (by omega)]; exact c2
  · rw [show h.1 + 3 = p2.1 by omega]
    refine (o6 _ (by omega)).trans ?_
    rw [o5 _ (by omega), o4 _ (by omega) (by omega)]; exact c3
  · rw [show h.1 + 4 = p3.1 by omega]
    refine (o6 _ (by omega)).trans ?_
    rw [o5 _ (by omega)]; exact c4
  · rw [show h.1 + 5 = p4.1 by omega]
    refine (o6 _ (by omega)).trans ?_
    rw [q5]
    unfold seF
    rw [show h.1 + 6 = p4.1 + 1 by omega]
  · rw [show h.1 + 6 = p4.1 + 1 by omega]
    exact (o6 _ (by omega)).trans c5
  · refine (o6 _ (by omega)).trans ?_
    rw [o5 _ (by omega), o4 _ (by omega) (by omega), o3 _ (by omega) (by omega), o2 _ (by omega) (by omega), o1 _ (by omega) (by omega)]; exact o0 c hc
abbrev tx0 : CS := fun j => if j = 2 then fun _ => -1 else fun _ => 0
theorem text_new (hh : kK ≤ h.1) : ∃ h', f_X8_init (nwO 10 [.null, .int 0, .int 0, .int 0, .null, .null, .null, .null, .int 0, .null, .int 0] h) h.1 = some h' ∧ h'.1 = h.1 + 7 ∧ TxC h' h.1 tx0 ∧ ∀ c, c < h.1 → h'.2 c = h.2 c := by
  have q0 : (nwO 10 [.null, .int 0, .int 0, .int 0, .null, .null, .null, .null, .int 0, .null, .int 0] h).2 h.1 = .inr (10, [.null, .int 0, .int 0, .int 0, .null, .null, .null, .null, .int 0, .null, .int 0]) := z_up_s _ _ _
  have l0 : (nwO 10 [.null, .int 0, .int 0, .int 0, .null, .null, .null, .null, .int 0, .null, .int 0] h).1 = h.1 + 1 := rfl
  have o0 : ∀ c, c < h.1 → (nwO 10 [.null, .int 0, .int 0, .int 0, .null, .null, .null, .null, .int 0, .null, .int 0] h).2 c = h.2 c := fun c hc => z_up_n _ _ (by omega)
  unfold f_X8_init
  generalize nwO 10 [.null, .int 0, .int 0, .int 0, .null, .null, .null, .null, .int 0, .null, .int 0] h = p0 at *
  obtain ⟨y1, p1, e1, e1', l1, q1, c1, o1⟩ := nwr (ty := .char) (n := 60) (lim := 60) (k := 0) hh q0 (by omega) (by simp) (by decide) (by decide)
  have e9 := wr_of (h := p1) (k := 2) (v := .int (-1 : Int32)) hh q1 (by simp)
  have q9 : (p1.1, z_up p1.2 h.1 (.inr (10, ([Value.null, .int 0, .int 0, .int 0, .null, .null, .null, .null, .int 0, .null, .int 0].set 0 (.ref p0.1)).set 2 (.int (-1 : Int32))))).2 h.1 = _ := z_up_s _ _ _
  have o9 : ∀ c, c ≠ h.1 → (p1.1, z_up p1.2 h.1 (.inr (10, ([Value.null, .int 0, .int 0, .int 0, .null, .null, .null, .null, .int 0, .null, .int 0].set 0 (.ref p0.1)).set 2 (.int (-1 : Int32))))).2 c = p1.2 c := fun c hc => z_up_n _ _ hc
  have l9 : (p1.1, z_up p1.2 h.1 (.inr (10, ([Value.null, .int 0, .int 0, .int 0, .null, .null, .null, .null, .int 0, .null, .int 0].set 0 (.ref p0.1)).set 2 (.int (-1 : Int32))))).1 = p1.1 := rfl
  generalize (p1.1, z_up p1.2 h.1 (.inr (10, ([Value.null, .int 0, .int 0, .int 0, .null, .null, .null, .null, .int 0, .null, .int 0].set 0 (.ref p0.1)).set 2 (.int (-1 : Int32))))) = pz at *
  obtain ⟨y2, p2, e2, e2', l2, q2, c2, o2⟩ := nwr (ty := .int) (n := 15) (lim := 15) (k := 4) hh q9 (by omega) (by simp) (by decide) (by decide)
  obtain ⟨y3, p3, e3, e3', l3, q3, c3, o3⟩ := nwr (ty := .int) (n := 15) (lim := 15) (k := 5) hh q2 (by omega) (by simp) (by decide) (by decide)
  obtain ⟨y4, p4, e4, e4', l4, q4, c4, o4⟩ := nwr (ty := .int) (n := 15) (lim := 15) (k := 6) hh q3 (by omega) (by simp) (by decide) (by decide)
  obtain ⟨y5, p5, e5, e5', l5, q5, c5, o5⟩ := nwr (ty := .int) (n := 15) (lim := 15) (k := 7) hh q4 (by omega) (by simp) (by decide) (by decide)
  obtain ⟨y6, p6, e6, e6', l6, q6, c6, o6⟩ := nwr (ty := .int) (n := 3) (lim := 3) (k := 9) hh q5 (by omega) (by simp) (by decide) (by decide)
  have w1 : (60 : Int32) = w 60 := rfl
  have w2 : (15 : Int32) = w 15 := rfl
  have w3 : (3 : Int32) = w 3 := rfl
  refine ⟨p6, by simp only [w1, w2, w3, e1, e1', e9, e2, e2', e3, e3', e4, e4', e5, e5', e6, e6', Option.bind_some], by omega, ⟨hh, by omega, ?_, ?_, ?_, ?_, ?_, ?_, ?_⟩, fun c hc => ?_⟩
  · rw [q6]
    unfold txF
    rw [show h.1 + 1 = p0.1 by omega, show h.1 + 2 = pz.1 by omega, show h.1 + 3 = p2.1 by omega, show h.1 + 4 = p3.1 by omega, show h.1 + 5 = p4.1 by omega, show h.1 + 6 = p5.1 by omega]
    rfl
  · rw [show h.1 + 1 = p0.1 by omega, o6 _ (by omega) (by omega), o5 _ (by omega) (by omega), o4 _ (by omega) (by omega), o3 _ (by omega) (by omega), o2 _ (by omega) (by omega), o9 _ (by omega)]; exact c1
  · rw [show h.1 + 2 = pz.1 by omega, o6 _ (by omega) (by omega), o5 _ (by omega) (by omega), o4 _ (by omega) (by omega), o3 _ (by omega) (by omega)]; exact c2
  · rw [show h.1 + 3 = p2.1 by omega, o6 _ (by omega) (by omega), o5 _ (by omega) (by omega), o4 _ (by omega) (by omega)]; exact c3
  · rw [show h.1 + 4 = p3.1 by omega, o6 _ (by omega) (by omega), o5 _ (by omega) (by omega)]; exact c4
  · rw [show h.1 + 5 = p4.1 by omega, o6 _ (by omega) (by omega)]; exact c5
  · rw [show h.1 + 6 = p5.1 by omega]; exact c6
  · rw [o6 _ (by omega) (by omega), o5 _ (by omega) (by omega), o4 _ (by omega) (by omega), o3 _ (by omega) (by omega), o2 _ (by omega) (by omega), o9 _ (by omega), o1 _ (by omega) (by omega)]; exact o0 c hc
theorem sb_new (hh : kK ≤ h.1) : ∃ h', f_J4_init_da8c8 (nwO 1 [.null, .int 0, .int 0, .int 0] h) h.1 = some h' ∧ h'.1 = h.1 + 2 ∧ h'.2 h.1 = .inr (1, [.ref (h.1 + 1), .int 0, .int 0, .int 0]) ∧ h'.2 (h.1 + 1) = .inl (.byte, 16, .inl fun _ => 0) ∧ ∀ c, c < h.1 → h'.2 c = h.2 c := by
  have q0 : (nwO 1 [.null, .int 0, .int 0, .int 0] h).2 h.1 = .inr (1, [.null, .int 0, .int 0, .int 0]) := z_up_s _ _ _
  have l0 : (nwO 1 [.null, .int 0, .int 0, .int 0] h).1 = h.1 + 1 := rfl
  have o0 : ∀ c, c < h.1 → (nwO 1 [.null, .int 0, .int 0, .int 0] h).2 c = h.2 c := fun c hc => z_up_n _ _ (by omega)
  unfold f_J4_init_da8c8 f_J5_init_d00df
  generalize nwO 1 [.null, .int 0, .int 0, .int 0] h = p0 at *
  obtain ⟨y1, p1, e1, e1', l1, q1, c1, o1⟩ := nwr (ty := .byte) (n := 16) (lim := 64) (k := 0) hh q0 (by omega) (by simp) (by decide) (by decide)
  have e2 := wr_of (h := p1) (k := 1) (v := .int (0 : Int32)) hh q1 (by simp)
  have w1 : (16 : Int32) = w 16 := rfl
  obtain ⟨p2, e2', l2, q2, o2⟩ : ∃ p2, wr p1 h.1 1 1 (.int (0 : Int32)) = some p2 ∧ p2.1 = p1.1 ∧ p2.2 h.1 = .inr (1, (([Value.null, .int 0, .int 0, .int 0].set 0 (.ref p0.1)).set 1 (.int 0))) ∧ ∀ c, c ≠ h.1 → p2.2 c = p1.2 c := ⟨_, e2, rfl, z_ups _ _ _ _, fun c hc => z_up_n _ _ hc⟩
  refine ⟨p2, by simp only [w1, e1, e1', e2', Option.bind_some], by omega, ?_, ?_, fun c hc => ?_⟩
  · refine q2.trans ?_
    rw [show h.1 + 1 = p0.1 by omega]
    rfl
  · rw [show h.1 + 1 = p0.1 by omega]
    exact (o2 _ (by omega)).trans c1
  · exact (o2 _ (by omega)).trans ((o1 _ (by omega) (by omega)).trans (o0 c hc))
/-- a field of the outer object written -/
theorem wro {p : PH} {fs : List Value} {k : Nat} {v : Value} (hq : p.2 86 = .inr (11, fs)) (hk : k < fs.length) : ∃ p', wr p 86 11 k v = some p' ∧ p'.1 = p.1 ∧ p'.2 86 = .inr (11, fs.set k v) ∧ fr (fun x => x = 86) p p' := ⟨_, wr_of (show kK ≤ 86 by decide) hq hk, rfl, z_ups _ _ _ _, fr.up rfl⟩
end NEWOBJ
