/-! THE CLASS'S CHANGE -/
section CHANGE
variable {B B' : Nat} {h h1 : PH} {g gs : GS} {K : Nat → GS} {c n N b k a : Nat} {sn : Option GS} {d1 d2 d3 x y z v : Int32} {t : CS} {l : Nat → Int32} {f u : Nat → Int32}
theorem judge_all (H : Sg B h a g) (Pr : Pri h) (hk : k ≤ 11) : f_X5_judge h a (w k) x y z = some (ju g k x y z) := by
  match k, hk with
  | 0, _ => exact judge_0 H
  | 1, _ => exact judge_1 H
  | 2, _ => exact judge_2 H
  | 3, _ => exact judge_3 H
  | 4, _ => exact judge_4 H
  | 5, _ => exact judge_5 H
  | 6, _ => exact judge_6 H
  | 7, _ => exact judge_7 H
  | 8, _ => exact judge_8 H
  | 9, _ => exact judge_9 H
  | 10, _ => exact judge_10 H Pr
  | 11, _ => exact judge_11 H
theorem perf_all (H : Sg B h 87 g) (L : LaC h 111 f u) (J : JB g) (Pr : Pri h) (hb : B + 40 < 1000000000) (hk : k ≤ 11) (q : ju g k x y z = 0) : ∃ h' f', f_X1_perform h 87 111 (w k) x y z = some (an g k x y, h') ∧ Sg (B + 40) h' 87 (ef g k x y z) ∧ LaC h' 111 f' u ∧ fr (fun i => stW 87 i ∨ laW 111 i) h h' := by
  have up : ∀ {r : Option (Int32 × PH)}, (∃ h', r = some (an g k x y, h') ∧ Sg B h' 87 (ef g k x y z) ∧ fr (stW 87) h h') → ∃ h' f', r = some (an g k x y, h') ∧ Sg (B + 40) h' 87 (ef g k x y z) ∧ LaC h' 111 f' u ∧ fr (fun i => stW 87 i ∨ laW 111 i) h h' := fun ⟨h', e, H', F⟩ => ⟨h', f, e, H'.le (by omega) hb, L.frm F (fun i hi z => by have z1 := z.1; have z2 := z.2; omega), F.mono fun _ z => Or.inl z⟩
  match k, hk with
  | 0, _ => exact up (perf_0 H q)
  | 1, _ => exact up (perf_1 H q)
  | 2, _ => exact up (perf_2 H q)
  | 3, _ => exact up (perf_3 H q)
  | 4, _ => exact up (perf_4 H q)
  | 5, _ => exact up (perf_5 H q)
  | 6, _ => exact up (perf_6 H q)
  | 7, _ => exact up (perf_7 H q)
  | 8, _ =>
    obtain ⟨h', f', e, H', L', F⟩ := perf_8 (x := x) (y := y) (z := z) H L J (fun i hi z => by have z1 := z.1; have z2 := z.2; omega) (fun i hi z => by have z1 := z.1; have z2 := z.2; omega)
    exact ⟨h', f', e, H'.le (by omega) hb, L', F⟩
  | 9, _ => exact up (perf_9 H q)
  | 10, _ => exact up (perf_10 H Pr q)
  | 11, _ =>
    obtain ⟨h', e, H', F⟩ := perf_11 (l := 111) H hb q
    exact ⟨h', f, e, H', L.frm F (fun i hi z => by have z1 := z.1; have z2 := z.2; omega), F.mono fun _ z => Or.inl z⟩
/-- the verdicts there are -/
theorem jv_all (O : Ok B g) (hk : k ≤ 11) : ju g k x y z = 0 ∨ (ju g k x y z = -1 ∨ ju g k x y z = -2 ∨ ju g k x y z = -3) ∨ ∃ i, 1 ≤ i ∧ i ≤ 8 ∧ ju g k x y z = w i := by
  match k, hk with
  | 0, _ =>
    rcases jv_0 (x := x) (y := y) (z := z) g with q | q | q
    · exact Or.inl q
    · exact Or.inr (Or.inl (Or.inl q))
    · exact Or.inr (Or.inr ⟨1, by decide, by decide, q⟩)
  | 1, _ =>
    rw [ju_1]
    rcases jv_C g x y 0 with q | q | q | ⟨q, -⟩
    · exact Or.inl q
    · exact Or.inr (Or.inl (Or.inl q))
    · exact Or.inr (Or.inl (Or.inr (Or.inl q)))
    · exact Or.inr (Or.inr ⟨5, by decide, by decide, q⟩)
  | 2, _ =>
    rw [ju_2]
    rcases jv_C g x y 1 with q | q | q | ⟨q, -⟩
    · exact Or.inl q
    · exact Or.inr (Or.inl (Or.inl q))
    · exact Or.inr (Or.inl (Or.inr (Or.inl q)))
    · exact Or.inr (Or.inr ⟨5, by decide, by decide, q⟩)
  | 3, _ =>
    rcases jv_3 (x := x) (y := y) (z := z) g with q | q
    · exact Or.inl q
    · exact Or.inr (Or.inl (Or.inl q))
  | 4, _ =>
    rcases jv_4 (x := x) (y := y) (z := z) g with q | q | q
    · exact Or.inl q
    · exact Or.inr (Or.inl (Or.inl q))
    · exact Or.inr (Or.inr ⟨1, by decide, by decide, q⟩)
  | 5, _ =>
    rcases jv_5 (x := x) (y := y) (z := z) g with q | ⟨q, -⟩
    · exact Or.inl q
    · exact Or.inr (Or.inl (Or.inr (Or.inr q)))
  | 6, _ =>
    rcases jv_6 (x := x) (y := y) (z := z) O with q | ⟨q, -⟩ | ⟨q, -⟩ | ⟨q, -⟩
    · exact Or.inl q
    · exact Or.inr (Or.inl (Or.inr (Or.inr q)))
    · exact Or.inr (Or.inr ⟨2, by decide, by decide, q⟩)
    · exact Or.inr (Or.inr ⟨3, by decide, by decide, q⟩)
  | 7, _ =>
    rcases jv_7 (x := x) (y := y) (z := z) g with q | q
    · exact Or.inl q
    · exact Or.inr (Or.inl (Or.inl q))
  | 8, _ =>
    rcases jv_8 (x := x) (y := y) (z := z) g with q | ⟨q, -⟩
    · exact Or.inl q
    · exact Or.inr (Or.inr ⟨7, by decide, by decide, q⟩)
  | 9, _ =>
    rcases jv_9 (x := x) (y := y) (z := z) O with q | ⟨q, -⟩ | ⟨q, -⟩
    · exact Or.inl q
    · exact Or.inr (Or.inl (Or.inr (Or.inl q)))
    · exact Or.inr (Or.inr ⟨4, by decide, by decide, q⟩)
  | 10, _ =>
    rcases jv_10 (x := x) (y := y) (z := z) g with q | q | q
    · exact Or.inl q
    · exact Or.inr (Or.inr ⟨6, by decide, by decide, q⟩)
    · exact Or.inr (Or.inr ⟨8, by decide, by decide, q⟩)
  | 11, _ =>
    rcases jv_11 (x := x) (y := y) (z := z) g with q | q
    · exact Or.inl q
    · exact Or.inr (Or.inl (Or.inl q))
theorem detail_all (H : Sg B h a g) (Pr : Pri h) (hk : k ≤ 11) {i : Nat} (h1 : 1 ≤ i) (h2 : i ≤ 8) : f_X5_detailOf h a (w i) (w k) x = some (dt g i k x) := by
  match i, h1, h2 with
  | 1, _, _ => exact detail_1 h a hk
  | 2, _, _ => exact detail_2 H _
  | 3, _, _ => exact detail_3 H _
  | 4, _, _ => exact detail_4 h a _
  | 5, _, _ => exact detail_5 H _
  | 6, _, _ => exact detail_6 H Pr _
  | 7, _, _ => exact detail_7 H _
  | 8, _, _ => exact detail_8 H _
/-- the exception that a verdict throws -/
def xs (v : Int32) : String := if v = -1 then "java/lang/IllegalArgumentException" else if v = -2 then "java/util/NoSuchElementException" else if v = -3 then "java/lang/IndexOutOfBoundsException" else "java/lang/UnsupportedOperationException"
theorem refuse_0 : f_X9_refuse 0 = Sum.inr () := by
  unfold f_X9_refuse
  rw [if_pos (by decide), if_pos (by decide), if_pos (by decide), if_pos rfl]
theorem refuse_ne (hv : ¬ v = 0) : f_X9_refuse v = Sum.inl (xs v) := by
  unfold f_X9_refuse xs
  by_cases c1 : v = -1
  · rw [if_neg (fun q => q c1), if_pos c1]
  · rw [if_pos c1, if_neg c1]
    by_cases c2 : v = -2
    · rw [if_neg (fun q => q c2), if_pos c2]
    · rw [if_pos c2, if_neg c2]
      by_cases c3 : v = -3
      · rw [if_neg (fun q => q c3), if_pos c3]
      · rw [if_pos c3, if_neg c3, if_neg hv]
theorem w_pos {i : Nat} (h1 : 1 ≤ i) (h2 : i ≤ 8) : (0 : Int32) < w i ∧ ¬ w i ≤ 0 ∧ ¬ w i = 0 := by
  have a1 : (0 : Int32) < w i := (w_lt (a := 0) (by decide) (by omega)).mpr (by omega)
  have a2 : ¬ w i ≤ 0 := fun q => by
    have := (w_le (b := 0) (by omega) (by decide)).mp q
    omega
  exact ⟨a1, a2, fun q => a2 (by rw [q]; exact Int32.le_refl _)⟩
/-- a change done -/
theorem change_fine (I : IC B h g K c sn d1 d2 d3 t l n) (J : JB g) (Pr : Pri h) (hb : B + 40 < 1000000000) (hk : k ≤ 11) (q : ju g k x y z = 0) : ∃ h1, f_X9_change h 86 (w k) x y z = some (Sum.inr (an g k x y), h1) ∧ IC (B + 40) h1 (ef g k x y z) (Kn K c g) (min (c + 1) 8) sn d1 d2 d3 t l n ∧ fr cW h h1 := by
  obtain ⟨N, R, so, b, s2, f, u, ci, i1, i2, i3, i4, i5, i6, i7, i8, i9, i10, i11, i12, i13⟩ := I
  obtain ⟨p1, R1, e1, H1, Hi1, G1, F1, N1⟩ := remember_ok i4 i5 i2 (by omega) (by omega) (fun i hi => by omega) (by have := i1.1; omega)
  have far1 : ∀ x, x ≤ 130 → (x = 109 ∨ x = 110 ∨ rgP R x) → x = 109 ∨ x = 110 := fun x hx z => by
    rcases z with z | z | z
    · exact Or.inl z
    · exact Or.inr z
    · have := (i5.far z).1; omega
  have no1 : ∀ x, x ≤ 130 → x ≠ 109 → x ≠ 110 → ¬ (x = 109 ∨ x = 110 ∨ rgP R x) := fun x hx n1 n2 z => by
    rcases far1 x hx z with z | z
    · exact n1 z
    · exact n2 z
  have O1 := i1.frm F1 (no1 86 (by omega) (by omega) (by omega))
  have L1 := i6.frm F1 (fun i hi => no1 _ (by omega) (by omega) (by omega))
  have Pr1 : Pri p1 := by
    obtain ⟨fp, P1, P2⟩ := Pr
    exact ⟨fp, (F1.2 1 (by have := i1.1; omega) (no1 1 (by omega) (by omega) (by omega))).trans P1, P2⟩
  obtain ⟨p2, f2, e2, H2, L2, F2⟩ := perf_all H1 L1 J Pr1 hb hk q
  have no2 : ∀ x, (x < 87 ∨ (97 < x ∧ x < 111) ∨ 113 < x) → ¬ (stW 87 x ∨ laW 111 x) := fun x hx z => by
    rcases z with z | z
    · have z1 := z.1; have z2 := z.2; omega
    · have z1 := z.1; have z2 := z.2; omega
  refine ⟨p2, ?_, ⟨(N + 1) % 8, R1, so, b, s2, f2, u, ci, O1.frm F2 (no2 _ (by omega)), H2, (i3.frm F1 (fun i hi => no1 _ (by omega) (by omega) (by omega))).frm F2 (fun i hi => no2 _ (by omega)), Hi1.frm F2 (no2 _ (by omega)) (no2 _ (by omega)), (G1.frm F2 (fun x hx => no2 _ (by have := (G1.far hx).1; omega))).le (by omega) hb, L2, (i7.frm F1 (fun i hi => no1 _ (by omega) (by omega) (by omega))).frm F2 (fun i hi => no2 _ (by omega)), (i8.frm F1 (fun i hi => no1 _ (by omega) (by omega) (by omega))).frm F2 (fun i hi => no2 _ (by omega)), (i9.frm F1 (no1 _ (by omega) (by omega) (by omega))).frm F2 (no2 _ (by omega)), (i10.frm F1 (no1 _ (by omega) (by omega) (by omega)) (fun z => ?_) i1.1).frm F2 (no2 _ (by omega)) (no2 _ ?_) O1.1, ((i11.frm F1 (fun x hx z => ?_)).frm F2 (fun x hx => no2 _ (by have := (i11.far hx).1; omega))).le (by omega) hb, fun x hx => ?_, i13⟩, (F1.mono fun x z => ?_).trans (F2.mono fun x z => ?_)⟩
  · unfold f_X9_change
    rw [i1.r0, Option.bind_some, judge_all i2 Pr hk, Option.bind_some, q, if_pos (Int32.le_refl _)]
    unfold f_X9_change_J40
    rw [refuse_0]
    show ((rdR h 86 11 2).bind _) = _
    rw [i1.r2, Option.bind_some, i1.r0, Option.bind_some, hiG i4, Option.bind_some, e1, Option.bind_some, O1.r0, Option.bind_some, O1.r3, Option.bind_some, e2, Option.bind_some]
  · rcases z with z | z | z
    · rcases i10.1 with y | y <;> omega
    · rcases i10.1 with y | y <;> omega
    · exact (i12 _ z).2 rfl
  · rcases i10.1 with y | y <;> omega
  · have f1 := (i11.far hx).1
    rcases z with z | z | z
    · omega
    · omega
    · exact (i12 _ z).1 hx
  · rcases N1 x hx with z | z
    · exact i12 x z
    · exact ⟨fun y => by have := (i11.far y).2; omega, by have := i10.2.1; omega⟩
  · rcases z with z | z | z
    · exact Or.inl (by omega)
    · exact Or.inl (by omega)
    · exact Or.inr (i5.far z).1
  · rcases z with z | z
    · exact Or.inl (by have z1 := z.1; have z2 := z.2; omega)
    · exact Or.inl (by have z1 := z.1; have z2 := z.2; omega)
/-- a denial kept -/
theorem IC.keep (I : IC B h g K c sn d1 d2 d3 t l n) (x y z : Int32) : ∃ h1, f_X2_keep h 128 x y z = some h1 ∧ IC B h1 g K c sn x y z t l n ∧ fr cW h h1 := by
  obtain ⟨N, R, so, b, s2, f, u, ci, i1, i2, i3, i4, i5, i6, i7, i8, i9, i10, i11, i12, i13⟩ := I
  obtain ⟨p1, e1, L1, F1⟩ := keep_ok i9 x y z
  refine ⟨p1, e1, ⟨N, R, so, b, s2, f, u, ci, i1.frm F1 (by omega), i2.frm F1 (fun i hi => by omega), i3.frm F1 (fun i hi => by omega), i4.frm F1 (by omega) (by omega), i5.frm F1 (fun x hx => by have := (i5.far hx).1; omega), i6.frm F1 (fun i hi => by omega), i7.frm F1 (fun i hi => by omega), i8.frm F1 (fun i hi => by omega), L1, i10.frm F1 (by omega) (by rcases i10.1 with y | y <;> omega) i1.1, i11.frm F1 (fun x hx => by have := (i11.far hx).1; omega), i12, i13⟩, F1.mono fun x z => Or.inl (by omega)⟩
theorem change_bad (I : IC B h g K c sn d1 d2 d3 t l n) (Pr : Pri h) (hk : k ≤ 11) (q : ju g k x y z = -1 ∨ ju g k x y z = -2 ∨ ju g k x y z = -3) : f_X9_change h 86 (w k) x y z = some (Sum.inl (xs (ju g k x y z)), h) := by
  obtain ⟨N, R, so, b, s2, f, u, ci, i1, i2, i3, i4, i5, i6, i7, i8, i9, i10, i11, i12, i13⟩ := I
  have q1 : ju g k x y z ≤ 0 ∧ ¬ ju g k x y z = 0 := by
    rcases q with q | q | q <;> rw [q] <;> decide
  unfold f_X9_change
  rw [i1.r0, Option.bind_some, judge_all i2 Pr hk, Option.bind_some, if_pos q1.1]
  unfold f_X9_change_J40
  rw [refuse_ne q1.2]
  rfl
theorem change_no (I : IC B h g K c sn d1 d2 d3 t l n) (Pr : Pri h) (hk : k ≤ 11) {i : Nat} (h1 : 1 ≤ i) (h2 : i ≤ 8) (q : ju g k x y z = w i) : ∃ h1, f_X9_change h 86 (w k) x y z = some (Sum.inl (xs (ju g k x y z)), h1) ∧ IC B h1 g K c sn (ju g k x y z) (dt g i k x) 0 t l n ∧ fr cW h h1 := by
  have wp := w_pos h1 h2
  obtain ⟨p1, e1, I1, F1⟩ := I.keep (ju g k x y z) (dt g i k x) 0
  obtain ⟨N, R, so, b, s2, f, u, ci, i1, i2, i3, i4, i5, i6, i7, i8, i9, i10, i11, i12, i13⟩ := I
  refine ⟨p1, ?_, I1, F1⟩
  unfold f_X9_change
  rw [i1.r0, Option.bind_some, judge_all i2 Pr hk, Option.bind_some, if_neg (by rw [q]; exact wp.2.1), i1.r6, Option.bind_some, Option.bind_some]
  have ed := detail_all (x := x) i2 Pr hk h1 h2
  rw [← q] at ed
  rw [ed, Option.bind_some, ltG i9, Option.bind_some, e1, Option.bind_some]
  unfold f_X9_change_J40
  rw [refuse_ne (by rw [q]; exact wp.2.2)]
  rfl
end CHANGE
