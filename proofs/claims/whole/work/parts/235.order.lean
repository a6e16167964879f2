/-! order by citations, indices: the class and the reference -/
section ORDER
variable {B : Nat} {g : GS} {h h1 : PH} {a c m k i j : Nat} {z e : CS}
theorem gC_lt (O : Ok B g) (hj : j < gN g) : gC g j < 10 := by
  have hn := O.n
  have := cn_strict (p := fun k => (gU g k).testBit j) (q := fun _ => true) (n := gN g) (fun _ _ _ => rfl) hj (O.note hj).2.2.2.2.2.2.2.2.2 rfl
  have l := cn_le (fun _ => true) (gN g)
  unfold gC
  omega
/-- does o come before k in the order -/
abbrev Bef (g : GS) (o k : Nat) : Prop := gC g k < gC g o ∨ (gC g o = gC g k ∧ (gT g k < gT g o ∨ (gT g o = gT g k ∧ o < k)))
def rk (g : GS) (m k : Nat) : Nat := cn (fun o => decide (Bef g o k)) m
theorem Bef.irr : ¬ Bef g k k := by omega
theorem Bef.trans {x y v : Nat} (p : Bef g x y) (q : Bef g y v) : Bef g x v := by omega
theorem Bef.or {x y : Nat} (h : x ≠ y) : Bef g x y ∨ Bef g y x := by omega
theorem Bef.no {x y : Nat} (p : Bef g x y) : ¬ Bef g y x := by omega
theorem rk_lt {x y : Nat} (hx : x < m) (p : Bef g x y) : rk g m x < rk g m y := cn_strict (fun o _ ho => decide_eq_true ((of_decide_eq_true ho : Bef g o x).trans p)) hx (decide_eq_false Bef.irr) (decide_eq_true p)
theorem rk_inj {x y : Nat} (hx : x < m) (hy : y < m) (e : rk g m x = rk g m y) : x = y := by
  by_cases d : x = y
  · exact d
  · rcases Bef.or (g := g) d with p | p
    · have := rk_lt (m := m) hx p; omega
    · have := rk_lt (m := m) hy p; omega
theorem rk_self (hk : k < m) : rk g m k < m := by
  have h1 := cn_strict (p := fun o => decide (Bef g o k)) (q := fun _ => true) (n := m) (fun _ _ _ => rfl) hk (decide_eq_false Bef.irr) rfl
  have l := cn_le (fun _ => true) m
  unfold rk; omega
theorem sm_comm (f : Nat → Nat → Nat) (n m : Nat) : sm (fun i => sm (fun j => f i j) m) n = sm (fun j => sm (fun i => f i j) n) m := by
  induction n with
  | zero =>
    show 0 = sm (fun _ => 0) m
    induction m with
    | zero => rfl
    | succ m ih => show 0 = sm (fun _ => 0) m + 0; omega
  | succ n ih =>
    show sm (fun i => sm (fun j => f i j) m) n + sm (fun j => f n j) m = sm (fun j => sm (fun i => f i j) n + f n j) m
    rw [ih, sm_add]
/-- counting along an order -/
theorem cn_perm (P : Nat → Bool) {o r : Nat → Nat} (h1 : ∀ i, i < m → o i < m) (h2 : ∀ i, i < m → r (o i) = i) (h3 : ∀ k, k < m → r k < m ∧ o (r k) = k) : cn P m = cn (fun i => P (o i)) m := by
  rw [← cn_sm, ← cn_sm]
  have e1 : sm (fun i => (P (o i)).toNat) m = sm (fun i => sm (fun k => if o i = k then (P k).toNat else 0) m) m := sm_ext fun i hi => by
    have : sm (fun k => if o i = k then (P k).toNat else 0) m = sm (fun k => if o i = k then (P (o i)).toNat else 0) m := sm_ext fun k _ => by
      by_cases d : o i = k
      · rw [if_pos d, if_pos d, d]
      · rw [if_neg d, if_neg d]
    rw [this, sm_pick (h1 i hi)]
  rw [e1, sm_comm]
  refine sm_ext fun k hk => ?_
  have : sm (fun i => if o i = k then (P k).toNat else 0) m = sm (fun i => if r k = i then (P k).toNat else 0) m := sm_ext fun i hi => by
    by_cases d : o i = k
    · rw [if_pos d, if_pos (by rw [← d]; exact h2 i hi)]
    · rw [if_neg d, if_neg (fun q => d (by rw [← q]; exact (h3 k hk).2))]
  rw [this, sm_pick (h3 k hk).1]
/-- the first m notes are in order -/
def Ord (g : GS) (m : Nat) (o : Nat → Nat) : Prop := ∀ i, i < m → o i < m ∧ rk g m (o i) = i
theorem Ord.bef {o : Nat → Nat} (D : Ord g m o) (hj : j < m) (hij : i < j) : Bef g (o i) (o j) := by
  obtain ⟨a1, a2⟩ := D i (by omega)
  obtain ⟨b1, b2⟩ := D j hj
  have d : o i ≠ o j := fun q => by rw [q] at a2; omega
  rcases Bef.or (g := g) d with p | p
  · exact p
  · have := rk_lt (m := m) b1 p; omega
theorem pre_cn {P : Nat → Bool} {n t : Nat} (ht : t ≤ n) (h1 : ∀ i, i < t → P i = true) (h2 : ∀ i, t ≤ i → i < n → P i = false) : cn P n = t := by
  rw [cn_none ht h2]
  clear h2 ht
  induction t with
  | zero => rfl
  | succ t ih => rw [cn_s, ih (fun i hi => h1 i (by omega)), h1 t (by omega)]; rfl
/-- a note m put at t among the first m -/
def ins (o : Nat → Nat) (t m : Nat) : Nat → Nat := fun i => if i < t then o i else if i = t then m else o (i - 1)
theorem Ord.put {o : Nat → Nat} {t : Nat} (D : Ord g m o) (ht : t ≤ m) (h1 : ∀ i, t ≤ i → i < m → Bef g m (o i)) (h2 : 0 < t → Bef g (o (t - 1)) m) (hs : ∀ k, k < m → ∃ i, i < m ∧ o i = k) : Ord g (m + 1) (ins o t m) ∧ ∀ k, k < m + 1 → ∃ i, i < m + 1 ∧ ins o t m i = k := by
  have low : ∀ i, i < t → Bef g (o i) m := fun i hi => by
    by_cases d : i = t - 1
    · rw [d]; exact h2 (by omega)
    · exact (D.bef (i := i) (j := t - 1) (by omega) (by omega)).trans (h2 (by omega))
  have r1 : ∀ k, rk g (m + 1) k = rk g m k + (decide (Bef g m k)).toNat := fun k => rfl
  have rm : rk g (m + 1) m = t := by
    rw [r1, decide_eq_false Bef.irr]
    show rk g m m + 0 = t
    unfold rk
    rw [cn_perm (o := o) (r := fun k => rk g m k) _ (fun i hi => (D i hi).1) (fun i hi => (D i hi).2) (fun k hk => by
      obtain ⟨i, q1, q2⟩ := hs k hk
      have := (D i q1).2
      rw [q2] at this
      exact ⟨by rw [this]; exact q1, by rw [this]; exact q2⟩)]
    rw [pre_cn ht (fun i hi => decide_eq_true (low i hi)) (fun i q1 q2 => decide_eq_false (h1 i q1 q2).no)]
    exact Nat.add_zero t
  refine ⟨fun i hi => ?_, fun k hk => ?_⟩
  · unfold ins
    by_cases d : i < t
    · rw [if_pos d, r1, decide_eq_false (low i d).no, (D i (by omega)).2]
      exact ⟨by have := (D i (by omega)).1; omega, rfl⟩
    · rw [if_neg d]
      by_cases d2 : i = t
      · rw [if_pos d2, rm]
        exact ⟨by omega, d2.symm⟩
      · rw [if_neg d2, r1, decide_eq_true (h1 (i - 1) (by omega) (by omega)), (D (i - 1) (by omega)).2]
        refine ⟨by have := (D (i - 1) (by omega)).1; omega, ?_⟩
        show i - 1 + 1 = i
        omega
  · by_cases d : k = m
    · exact ⟨t, by omega, by unfold ins; rw [if_neg (by omega), if_pos rfl, d]⟩
    · obtain ⟨i, q1, q2⟩ := hs k (by omega)
      by_cases d2 : i < t
      · exact ⟨i, by omega, by unfold ins; rw [if_pos d2]; exact q2⟩
      · exact ⟨i + 1, by omega, by unfold ins; rw [if_neg (by omega), if_neg (by omega)]; exact q2⟩
theorem fillCiting_ok (H : Sg B h a g) (C : CiC h c z) (hd : ∀ i, i ≤ 10 → ¬ ciW c (a + i)) : ∃ h1 z1, f_X0_fillCiting h c a = some h1 ∧ CiC h1 c z1 ∧ (∀ k, k < gN g → z1 2 k = w (gC g k)) ∧ fr (ciW c) h h1 := by
  have hn := H.ok.n
  obtain ⟨h1, e1, ⟨z1, C1, I1⟩, F1⟩ := sloop0 (fun fu k (q : PH) => f_X0_fillCiting_L2 fu q c a (w k)) id (gN g) (fun k q => (∃ z1, CiC q c z1 ∧ ∀ x, x < k → z1 2 x = w (gC g x)) ∧ fr (ciW c) h q) (by omega) (fun fu k q hk hI => by
    obtain ⟨⟨z1, C1, I1⟩, F1⟩ := hI
    have Hq := H.ci F1 hd
    obtain ⟨q1, e1, C2, F2⟩ := C1.s2 (k := k) (x := w (gC g k)) (by omega)
    refine ⟨q1, ?_, ⟨_, C2, fun x hx => ?_⟩, F1.trans F2⟩
    · show f_X0_fillCiting_L2 (fu + 1) q c a (w k) = f_X0_fillCiting_L2 fu q1 c a (w (k + 1))
      simp only [f_X0_fillCiting_L2, Hq.i0, Option.bind_some, if_neg (is_lt hk (by omega)), C1.r2, Hq.gd, countCiting_ok Hq (show k < 31 by omega), e1, w_succ]
    · show upd (z1 2) k _ x = _
      by_cases d : x = k
      · rw [d, upd_eq]
      · rw [upd_ne d]; exact I1 x (by omega)) (fun fu q hI => by
    have Hq := H.ci hI.2 hd
    show f_X0_fillCiting_L2 (fu + 1) q c a (w (gN g)) = some q
    simp only [f_X0_fillCiting_L2, Hq.i0, Option.bind_some, if_pos is_ge]) (k := 0) (s := h) (Nat.zero_le _) ⟨⟨z, C, fun x hx => by omega⟩, fr.refl _ _⟩
  have e1' : f_X0_fillCiting_L2 FV h c a (0 : Int32) = some h1 := e1
  exact ⟨h1, z1, by unfold f_X0_fillCiting; rw [e1']; rfl, C1, I1, F1⟩
theorem comesBefore_ok (H : Sg B h a g) (C : CiC h c z) (I : ∀ k, k < gN g → z 2 k = w (gC g k)) {o : Nat} (hk : k < gN g) (ho : o < k) : f_X0_comesBefore h c a (w k) (w o) = some (decide (Bef g k o)) := by
  have O := H.ok
  have hn := O.n
  have c1 := gC_lt O hk
  have c2 := gC_lt O (j := o) (by omega)
  have t1 := (O.note hk).2.2.2.2.1
  have t2 := (O.note (k := o) (by omega)).2.2.2.2.1
  unfold f_X0_comesBefore
  simp only [C.r2, C.a2 (show k < 10 by omega), C.a2 (show o < 10 by omega), I k hk, I o (by omega), Option.bind_some, H.r2, H.a2 hk, H.a2 (show o < gN g by omega), w_inj (show gC g k < 2147483648 by omega) (show gC g o < 2147483648 by omega), w_le (show gC g k < 2147483648 by omega) (show gC g o < 2147483648 by omega), w_le (show gT g k < 2147483648 by omega) (show gT g o < 2147483648 by omega)]
  by_cases d : gC g k = gC g o
  · rw [if_pos d]
    by_cases q : gT g k ≤ gT g o
    · rw [if_pos q, decide_eq_false (by omega)]
    · rw [if_neg q, decide_eq_true (by omega)]
  · rw [if_neg d]
    by_cases q : gC g k ≤ gC g o
    · rw [if_pos q, decide_eq_false (by omega)]
    · rw [if_neg q, decide_eq_true (by omega)]
/-- going down to the place of a note -/
theorem place_ok (H : Sg B h a g) (hd : ∀ i, i ≤ 10 → ¬ ciW c (a + i)) {o : Nat → Nat} (hm : m < gN g) (D : Ord g m o) : ∀ fu t (q : PH) (z : CS), t ≤ m → t < fu → CiC q c z → fr (ciW c) h q → (∀ k, k < gN g → z 2 k = w (gC g k)) → (∀ i, i < t → z 1 i = w (o i)) → (∀ i, t < i → i ≤ m → z 1 i = w (o (i - 1))) → (∀ i, t ≤ i → i < m → Bef g m (o i)) → ∃ q1 z1 t1, f_X0_sortNotes_L17 fu q c a (w m) (w t) = some (w t1, q1) ∧ t1 ≤ m ∧ CiC q1 c z1 ∧ fr (ciW c) h q1 ∧ (∀ k, k < gN g → z1 2 k = w (gC g k)) ∧ (∀ i, i < t1 → z1 1 i = w (o i)) ∧ (∀ i, t1 < i → i ≤ m → z1 1 i = w (o (i - 1))) ∧ (∀ i, t1 ≤ i → i < m → Bef g m (o i)) ∧ (0 < t1 → Bef g (o (t1 - 1)) m) := by
  have hn := H.ok.n
  intro fu
  induction fu with
  | zero => intro t q z h1 h2; omega
  | succ fu ih =>
    intro t q z ht hf C F I2 I3 I4 I5
    have Hq := H.ci F hd
    by_cases t0 : t = 0
    · subst t0
      refine ⟨q, z, 0, ?_, ht, C, F, I2, I3, I4, I5, fun y => by omega⟩
      simp only [f_X0_sortNotes_L17, if_pos (show w 0 ≤ 0 from Int32.le_refl _)]
    · have c0 : ¬ w t ≤ 0 := fun y => t0 (by
        have := (w_le (a := t) (b := 0) (by omega) (by decide)).mp y
        omega)
      have o1 := (D (t - 1) (by omega)).1
      have e1 : w t - (1 : Int32) = w (t - 1) := w_sub (b := 1) (by omega)
      have i1 := I3 (t - 1) (by omega)
      have cb := comesBefore_ok Hq C I2 hm o1
      by_cases y : Bef g m (o (t - 1))
      · have yn : ¬ decide (Bef g m (o (t - 1))) = false := by rw [decide_eq_true y]; decide
        obtain ⟨q1, e2, C2, F2⟩ := C.s1 (k := t) (x := w (o (t - 1))) (by omega)
        have step : f_X0_sortNotes_L17 (fu + 1) q c a (w m) (w t) = f_X0_sortNotes_L17 fu q1 c a (w m) (w (t - 1)) := by
          simp only [f_X0_sortNotes_L17, if_neg c0, C.r1, e1, C.a1 (show t - 1 < 10 by omega), i1, C.gd, cb, Option.bind_some, if_neg yn, e2, w_pred (show 1 ≤ t by omega)]
        rw [step]
        refine ih (t - 1) q1 _ (by omega) (by omega) C2 (F.trans F2) (fun k hk => I2 k hk) (fun i hi => ?_) (fun i h1 h2 => ?_) (fun i h1 h2 => ?_)
        · show upd (z 1) t _ i = _
          rw [upd_ne (by omega)]; exact I3 i (by omega)
        · show upd (z 1) t _ i = _
          by_cases d : i = t
          · rw [d, upd_eq]
          · rw [upd_ne d]; exact I4 i (by omega) h2
        · by_cases d : i = t - 1
          · rw [d]; exact y
          · exact I5 i (by omega) h2
      · have yn : decide (Bef g m (o (t - 1))) = false := decide_eq_false y
        refine ⟨q, z, t, ?_, ht, C, F, I2, I3, I4, I5, fun _ => ?_⟩
        · simp only [f_X0_sortNotes_L17, if_neg c0, C.r1, e1, C.a1 (show t - 1 < 10 by omega), i1, C.gd, cb, Option.bind_some, if_pos yn]
        · rcases Bef.or (g := g) (show o (t - 1) ≠ m by omega) with p | p
          · exact p
          · exact absurd p y
theorem sortNotes_ok (H : Sg B h a g) (C : CiC h c z) (hd : ∀ i, i ≤ 10 → ¬ ciW c (a + i)) : ∃ h1 z1 o, f_X0_sortNotes h c a = some h1 ∧ CiC h1 c z1 ∧ fr (ciW c) h h1 ∧ (∀ k, k < gN g → z1 2 k = w (gC g k)) ∧ (∀ i, i < gN g → z1 1 i = w (o i)) ∧ Ord g (gN g) o ∧ ∀ k, k < gN g → ∃ i, i < gN g ∧ o i = k := by
  have hn := H.ok.n
  obtain ⟨h0, z0, e0, C0, I0, F0⟩ := fillCiting_ok H C hd
  have H0 := H.ci F0 hd
  obtain ⟨h1, e1, ⟨z1, o, C1, I1, J1, D1, S1⟩, F1⟩ := sloop0 (fun fu k (q : PH) => f_X0_sortNotes_L7 fu q c a (w k)) id (gN g) (fun k q => (∃ z1 o, CiC q c z1 ∧ (∀ x, x < gN g → z1 2 x = w (gC g x)) ∧ (∀ i, i < k → z1 1 i = w (o i)) ∧ Ord g k o ∧ ∀ x, x < k → ∃ i, i < k ∧ o i = x) ∧ fr (ciW c) h0 q) (by omega) (fun fu k q hk hI => by
    obtain ⟨⟨z1, o, C1, I1, J1, D1, S1⟩, F1⟩ := hI
    have Hq := H0.ci F1 hd
    obtain ⟨q1, z2, t, e1, t1, C2, F2, K2, K3, K4, K5, K6⟩ := place_ok Hq hd hk D1 FV k q z1 (Nat.le_refl _) (by rw [FV_eq]; omega) C1 (fr.refl _ _) I1 J1 (fun i h1 h2 => by omega) (fun i h1 h2 => by omega)
    obtain ⟨q2, e2, C3, F3⟩ := C2.s1 (k := t) (x := w k) (by omega)
    obtain ⟨D2, S2⟩ := D1.put t1 K5 K6 S1
    have Hq1 := Hq.ci F2 hd
    refine ⟨q2, ?_, ⟨_, ins o t k, C3, fun x hx => K2 x hx, fun i hi => ?_, D2, S2⟩, (F1.trans F2).trans F3⟩
    · show f_X0_sortNotes_L7 (fu + 1) q c a (w k) = f_X0_sortNotes_L7 fu q2 c a (w (k + 1))
      simp only [f_X0_sortNotes_L7, Hq.i0, Option.bind_some, if_neg (is_lt hk (by omega)), e1, C2.r1, e2, w_succ]
    · show upd (z2 1) t _ i = _
      unfold ins
      by_cases d : i = t
      · rw [d, upd_eq, if_neg (by omega), if_pos rfl]
      · rw [upd_ne d]
        by_cases d2 : i < t
        · rw [if_pos d2]; exact K3 i d2
        · rw [if_neg d2, if_neg d]; exact K4 i (by omega) (by omega)) (fun fu q hI => by
    have Hq := H0.ci hI.2 hd
    show f_X0_sortNotes_L7 (fu + 1) q c a (w (gN g)) = some q
    simp only [f_X0_sortNotes_L7, Hq.i0, Option.bind_some, if_pos is_ge]) (k := 0) (s := h0) (Nat.zero_le _) ⟨⟨z0, id, C0, I0, fun i hi => by omega, fun i hi => by omega, fun x hx => by omega⟩, fr.refl _ _⟩
  have e1' : f_X0_sortNotes_L7 FV h0 c a (0 : Int32) = some h1 := e1
  refine ⟨h1, z1, o, ?_, C1, F0.trans F1, I1, J1, D1, S1⟩
  unfold f_X0_sortNotes
  simp only [C.gd, e0, Option.bind_some, e1']
/-- the note of a rank -/
theorem noteAt_ok (H : Sg B h a g) (C : CiC h c z) (hd : ∀ i, i ≤ 10 → ¬ ciW c (a + i)) (hk : k < gN g) : ∃ h1 z1 o, f_X0_noteAt h c a (w k) = some (w o, h1) ∧ o < gN g ∧ rk g (gN g) o = k ∧ CiC h1 c z1 ∧ fr (ciW c) h h1 := by
  have hn := H.ok.n
  obtain ⟨h1, z1, o, e1, C1, F1, -, J1, D1, -⟩ := sortNotes_ok H C hd
  refine ⟨h1, z1, o k, ?_, (D1 k hk).1, (D1 k hk).2, C1, F1⟩
  unfold f_X0_noteAt
  simp only [C.gd, e1, Option.bind_some, C1.r1, C1.a1 (show k < 10 by omega), J1 k hk]
end ORDER
