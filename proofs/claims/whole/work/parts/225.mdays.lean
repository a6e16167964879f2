/-! the reference's days -/
section MDAYS
variable {B : Nat} {g : GS} {h : PH} {a m k p : Nat} {s e : CS}
theorem FV_s : ∃ fu, FV = fu + 1 := ⟨4095, FV_eq⟩
theorem setR_0 (e : CS) (f : Nat → Int32) (i : Nat) : setR e i f i = f := if_pos rfl
theorem setR_2 (e : CS) (f f' : Nat → Int32) (i : Nat) : setR (setR e i f) i f' = setR e i f' := by
  funext j
  unfold setR
  by_cases c : j = i
  · rw [if_pos c, if_pos c]
  · rw [if_neg c, if_neg c, if_neg c]
theorem setR_id (e : CS) (i : Nat) : setR e i (e i) = e := by
  funext j
  unfold setR
  by_cases c : j = i
  · rw [if_pos c, c]
  · rw [if_neg c]
/-- the reference with a row g and all else as in e -/
def Mr (B : Nat) (h : PH) (m : Nat) (e : CS) (g : GS) : Prop := Ok B g ∧ MoC h m (setR e 0 g)
theorem Mr.mg (H : Mr B h m e g) : Mg B h m g := ⟨H.1, _, H.2, setR_0 _ _ _⟩
theorem Mr.of (O : Ok B (e 0)) (M : MoC h m e) : Mr B h m e (e 0) := ⟨O, by rw [setR_id]; exact M⟩
theorem Mr.put (H : Mr B h m e g) {g' : GS} {B' i : Nat} {x : Int32} (O : Ok B' g') (hi : i < 99) (hg : g' = upd g i x) : ∃ h', asI .int h (m + 1) (w i) x = some h' ∧ Mr B' h' m e g' ∧ fr (mW m) h h' := by
  obtain ⟨h1, e1, M1, F1⟩ := H.2.s0 (k := i) x hi
  rw [setR_0, setR_2, ← hg] at M1
  exact ⟨h1, e1, ⟨O, M1⟩, F1⟩
theorem lays_ok (H : Mr B h m e g) {g' : GS} {B' k j : Nat} {x : Int32} (O : Ok B' g') (hk : k < 10) (hj : j < 4) (hg : g' = upd g (44 + 4 * k + j) x) : ∃ h', f_X10_lays h m (w k) (w j) x = some h' ∧ Mr B' h' m e g' ∧ fr (mW m) h h' := by
  obtain ⟨h1, e1, H1, F1⟩ := H.put O (i := 44 + 4 * k + j) (by omega) hg
  refine ⟨h1, ?_, H1, F1⟩
  unfold f_X10_lays
  simp only [H.mg.r0, Option.bind_some, of_ix, e1]
theorem mdrift_ok (H : Mr B h m e g) (h3 : ¬ gS g = 3) : ∃ h', f_X10_goes_J54 h m = some (w (cn (mv g) (gN g)), h') ∧ Mr B h' m e (eMs g (gN g)) ∧ fr (mW m) h h' := by
  have O := H.1
  have hn := O.n
  have e0 : ∀ n, gN (eMs g n) = gN g := fun n => by unfold gN; rw [eMs_ne (fun k _ => by omega)]
  obtain ⟨⟨h1, c1⟩, e1, H1, E1, F1⟩ := sloop0 (fun fu k (q : PH × Int32) => f_X10_goes_L58 fu q.1 m q.2 (w k)) (fun q => (q.2, q.1)) (gN g) (fun k q => Mr B q.1 m e (eMs g k) ∧ q.2 = w (cn (mv g) k) ∧ fr (mW m) h q.1) (by omega) (fun fu k q hk hI => by
    obtain ⟨Hq, Eq, Fq⟩ := hI
    have hk' : k < gN (eMs g k) := by rw [e0 k]; exact hk
    have n0 : alI .int q.1 (m + 1) (0 : Int32) = some (w (gN g)) := by rw [Hq.mg.n0, e0 k]
    have p0 : f_X10_of q.1 m (w k) (0 : Int32) = some (w (gP g k)) := by rw [Hq.mg.of0 hk', eMs_self (Nat.le_refl _)]
    have hp := (O.note hk).2.1
    have a5 : alI .int q.1 (m + 1) ((8 : Int32) + w (gP g k)) = some (g (8 + gP g k)) := by
      show alI .int q.1 (m + 1) (w 8 + w (gP g k)) = _
      rw [w_add, Hq.mg.a (by omega), eMs_ne (fun j _ => by omega)]
    have eh : gH (eMs g k) k = gH g k := by unfold gH; rw [eMs_ne (fun j _ => by omega)]
    have p2 : f_X10_of q.1 m (w k) (2 : Int32) = some (w (gH g k)) := by rw [Hq.mg.of2 hk', eh]
    have hx := (O.page hp).1
    have ss : f_X10_seasonNow q.1 m = some (w (gS g)) := by rw [mseason Hq.mg, gS_2 (eMs_ne (fun j _ => by omega))]
    have e3 : ¬ w (gS g) = (3 : Int32) := fun z => h3 ((w_inj (a := gS g) (b := 3) (by have := gS_lt g; omega) (by decide)).mp z)
    have hh := (O.note hk).2.2.2.2.2.2.1
    have L : ∀ b, mv g k = b → cn (mv g) (k + 1) = cn (mv g) k + b.toNat := fun b hb => by subst hb; rfl
    obtain ⟨q1, eq1, Hq1, Fq1⟩ := lays_ok (j := 0) (x := w (nP g k)) Hq (eMs_ok O (k + 1) (by omega)) (by omega) (by decide) rfl
    have eq1 : f_X10_lays q.1 m (w k) (0 : Int32) (w (nP g k)) = some q1 := eq1
    refine ⟨(q1, w (cn (mv g) (k + 1))), ?_, Hq1, rfl, Fq.trans Fq1⟩
    show f_X10_goes_L58 (fu + 1) q.1 m q.2 (w k) = f_X10_goes_L58 fu q1 m (w (cn (mv g) (k + 1))) (w (k + 1))
    by_cases c : gH g k = 0
    · have c1 : ¬ ¬ w (gH g k) = 0 := fun z => z (by rw [c]; rfl)
      have en : zrem ((w (gP g k) + g (8 + gP g k)) + (12 : Int32)) (12 : Int32) = w (nP g k) := by
        rw [stp_w hp hx]; unfold nP; rw [if_pos c]
      simp only [f_X10_goes_L58, Hq.mg.r0, n0, Option.bind_some, if_neg (is_lt hk (by omega)), Hq.mg.gd, ss, if_neg e3, p2, if_neg c1, p0, a5, en, eq1, w_succ]
      by_cases d : g (8 + gP g k) = 0
      · have d1 : ¬ ¬ g (8 + gP g k) = 0 := fun z => z d
        rw [if_neg d1, L false (by unfold mv; simp [d]), Eq]
        exact congrArg (fun z => f_X10_goes_L58 fu q1 m z (w (k + 1))) (w_add _ 0)
      · rw [if_pos d, L true (by unfold mv; simp [c, d]), Eq]
        exact congrArg (fun z => f_X10_goes_L58 fu q1 m z (w (k + 1))) (w_add _ 1)
    · have c1 : ¬ w (gH g k) = 0 := fun z => c ((w_inj (a := gH g k) (b := 0) (by omega) (by decide)).mp z)
      have en : zrem ((w (gP g k) + (0 : Int32)) + (12 : Int32)) (12 : Int32) = w (nP g k) := by
        rw [stp_w hp (Or.inl rfl), stp_0]; unfold nP; rw [if_neg c]
      simp only [f_X10_goes_L58, Hq.mg.r0, n0, Option.bind_some, if_neg (is_lt hk (by omega)), Hq.mg.gd, ss, if_neg e3, p2, p0, en, eq1, w_succ]
      rw [if_pos c1, L false (by unfold mv; simp [c]), Eq]
      exact congrArg (fun z => f_X10_goes_L58 fu q1 m z (w (k + 1))) (w_add _ 0)) (fun fu q hI => by
    show f_X10_goes_L58 (fu + 1) q.1 m q.2 (w (gN g)) = some (q.2, q.1)
    have n0 : alI .int q.1 (m + 1) (0 : Int32) = some (w (gN g)) := by rw [hI.1.mg.n0, e0]
    simp only [f_X10_goes_L58, hI.1.mg.r0, n0, Option.bind_some, if_pos is_ge]) (k := 0) (s := (h, w 0)) (Nat.zero_le _) ⟨H, rfl, fr.refl _ _⟩
  have e1' : f_X10_goes_L58 FV h m (0 : Int32) (0 : Int32) = some (c1, h1) := e1
  refine ⟨h1, ?_, H1, F1⟩
  have E1 : c1 = w (cn (mv g) (gN g)) := E1
  unfold f_X10_goes_J54
  rw [e1', E1]; rfl
theorem mstay_ok (H : Mr B h m e g) (h3 : gS g = 3) : f_X10_goes_J54 h m = some (w 0, h) := by
  have e1 : f_X10_goes_L58 FV h m (0 : Int32) (0 : Int32) = some ((0 : Int32), h) := by
    obtain ⟨fu, hf⟩ := FV_s
    rw [hf]
    simp only [f_X10_goes_L58, H.mg.r0, H.mg.n0, Option.bind_some, H.mg.gd, mseason H.mg, h3]
    split
    · rfl
    · rw [if_pos (show w 3 = (3 : Int32) from rfl)]
  unfold f_X10_goes_J54
  rw [e1]; rfl
theorem mfill_ok (H : Mr B h m e g) : ∃ h', f_X10_goes_L32 FV h m (0 : Int32) = some h' ∧ Mr B h' m e (eFz g 12) ∧ fr (mW m) h h' := by
  have O := H.1
  obtain ⟨h1, e1, H1, F1⟩ := sloop0 (fun fu k (q : PH) => f_X10_goes_L32 fu q m (w k)) id 12 (fun k q => Mr B q m e (eFz g k) ∧ fr (mW m) h q) (by decide) (fun fu k q hk hI => by
    obtain ⟨Hq, Fq⟩ := hI
    obtain ⟨q1, eq1, Hq1, Fq1⟩ := Hq.put (eFz_ok O (k + 1) (by omega)) (i := 32 + k) (x := w 0) (by omega) rfl
    refine ⟨q1, ?_, Hq1, Fq.trans Fq1⟩
    have eq1' : asI .int q (m + 1) ((32 : Int32) + w k) (0 : Int32) = some q1 := by
      show asI .int q (m + 1) (w 32 + w k) (w 0) = some q1
      rw [w_add]; exact eq1
    show f_X10_goes_L32 (fu + 1) q m (w k) = f_X10_goes_L32 fu q1 m (w (k + 1))
    simp only [f_X10_goes_L32, if_neg (show ¬ (12 : Int32) ≤ w k from is_lt (n := 12) hk (by decide)), Hq.mg.r0, eq1', Option.bind_some, w_succ]) (fun fu q hI => by
    show f_X10_goes_L32 (fu + 1) q m (w 12) = some q
    simp only [f_X10_goes_L32, if_pos (show (12 : Int32) ≤ w 12 from is_ge)]) (k := 0) (s := h) (Nat.zero_le _) ⟨H, fr.refl _ _⟩
  exact ⟨h1, e1, H1, F1⟩
theorem goes_ok (H : Mr B h m e g) (hb : B + 1 < 1000000000) : ∃ h', f_X10_goes h m = some (w (mvs g), h') ∧ Mr (B + 1) h' m e (eGo g) ∧ fr (mW m) h h' := by
  obtain ⟨h1, e1, H1, F1⟩ := H.put (H.1.day_ok hb) (i := 2) (x := w (gD g + 1)) (by decide) rfl
  have e1' : asI .int h (m + 1) (2 : Int32) (w (gD g) + (1 : Int32)) = some h1 := by rw [w_succ]; exact e1
  have q0 := mseason H.mg
  have q1 := mseason H1.mg
  have l0 := gS_lt g
  have l1 := gS_lt (eD g)
  unfold f_X10_goes
  simp only [H.mg.gd, H1.mg.gd, q0, q1, H.mg.r0, H.mg.n2, e1', Option.bind_some, s_ne l1 l0]
  have last : ∀ h2 : PH, Mr (B + 1) h2 m e (eT g) → fr (mW m) h h2 → ∃ h', f_X10_goes_J54 h2 m = some (w (mvs g), h') ∧ Mr (B + 1) h' m e (eGo g) ∧ fr (mW m) h h' := fun h2 H2 F2 => by
    have es : gS (eT g) = gS (eD g) := gS_2 eT_2
    by_cases d : gS (eD g) = 3
    · exact ⟨h2, by rw [mstay_ok H2 (es.trans d)]; unfold mvs; rw [if_pos d], by unfold eGo; rw [if_pos d]; exact H2, F2⟩
    · obtain ⟨h3, e3, H3, F3⟩ := mdrift_ok H2 (fun z => d (es.symm.trans z))
      exact ⟨h3, by rw [e3]; unfold mvs; rw [if_neg d], by unfold eGo; rw [if_neg d]; exact H3, F2.trans F3⟩
  by_cases c : gS (eD g) = gS g
  · have eT1 : eT g = eD g := by unfold eT; rw [if_pos c]
    rw [if_pos c]
    exact last h1 (by rw [eT1]; exact H1) F1
  · have eT1 : eT g = eFz (upd (eD g) 3 0) 12 := by unfold eT; rw [if_neg c]
    rw [if_neg c]
    obtain ⟨h2, e2, H2, F2⟩ := H1.put (H1.1.sc (i := 3) (x := 0) (by simp)) (i := 3) (x := 0) (by decide) rfl
    obtain ⟨h3, e4, H3, F3⟩ := mfill_ok H2
    have e2' : asI .int h1 (m + 1) (3 : Int32) (0 : Int32) = some h2 := e2
    simp only [H1.mg.r0, e2', Option.bind_some, e4]
    exact last h3 (by rw [eT1]; exact H3) ((F1.trans F2).trans F3)
theorem mpass_ok (H : Mr B h m e g) {n : Nat} (hn : n ≤ 40) (hb : B + n < 1000000000) : ∃ h', f_X10_pass_L36 FV h m (w n) (0 : Int32) (0 : Int32) = some (w (mvn g n), h') ∧ Mr (B + n) h' m e (eGos g n) ∧ fr (mW m) h h' := by
  obtain ⟨⟨h1, c1⟩, e1, H1, E1, F1⟩ := sloop0 (fun fu k (q : PH × Int32) => f_X10_pass_L36 fu q.1 m (w n) q.2 (w k)) (fun q => (q.2, q.1)) n (fun k q => Mr (B + k) q.1 m e (eGos g k) ∧ q.2 = w (mvn g k) ∧ fr (mW m) h q.1) (by omega) (fun fu k q hk hI => by
    obtain ⟨Hq, Eq, Fq⟩ := hI
    obtain ⟨q1, eq1, Hq1, Fq1⟩ := goes_ok Hq (by omega)
    refine ⟨(q1, w (mvn g (k + 1))), ?_, Hq1, rfl, Fq.trans Fq1⟩
    show f_X10_pass_L36 (fu + 1) q.1 m (w n) q.2 (w k) = f_X10_pass_L36 fu q1 m (w n) (w (mvn g (k + 1))) (w (k + 1))
    simp only [f_X10_pass_L36, if_neg (day_lt hk hn), Hq.mg.gd, eq1, Option.bind_some, w_succ]
    rw [Eq, w_add]; rfl) (fun fu q hI => by
    show f_X10_pass_L36 (fu + 1) q.1 m (w n) q.2 (w n) = some (q.2, q.1)
    simp only [f_X10_pass_L36, if_pos is_ge]) (k := 0) (s := (h, w 0)) (Nat.zero_le _) ⟨H, rfl, fr.refl _ _⟩
  have E1 : c1 = w (mvn g n) := E1
  exact ⟨h1, by rw [← E1]; exact e1, H1, F1⟩
end MDAYS
