/-! indices and ranks: the class and the reference -/
section INDEX
variable {B : Nat} {g : GS} {h h1 : PH} {a c m k i j : Nat} {z e : CS}
def gCn (g : GS) (t : Nat) : Nat := cn (fun k => decide (t < gC g k)) (gN g)
def pI (g : GS) (t : Nat) : Bool := decide (t < gCn g t)
def fsf (p : Nat → Bool) : Nat → Nat → Nat
  | 0, k => k
  | d + 1, k => if p k = true then fsf p d (k + 1) else k
def gI (g : GS) : Nat := fsf (pI g) (gN g) 0
theorem fsf_le (p : Nat → Bool) : ∀ d k, fsf p d k ≤ k + d := by
  intro d
  induction d with
  | zero => intro k; exact Nat.le_refl _
  | succ d ih =>
    intro k
    unfold fsf
    split
    · have := ih (k + 1); omega
    · omega
theorem fsf_ge (p : Nat → Bool) : ∀ d k, k ≤ fsf p d k := by
  intro d
  induction d with
  | zero => intro k; exact Nat.le_refl _
  | succ d ih =>
    intro k
    unfold fsf
    split
    · have := ih (k + 1); omega
    · omega
theorem fsf_all (p : Nat → Bool) : ∀ d k t, k ≤ t → t < fsf p d k → p t = true := by
  intro d
  induction d with
  | zero => intro k t h1 h2; have : fsf p 0 k = k := rfl; omega
  | succ d ih =>
    intro k t h1 h2
    unfold fsf at h2
    by_cases y : p k = true
    · rw [if_pos y] at h2
      by_cases d : t = k
      · rw [d]; exact y
      · exact ih (k + 1) t (by omega) h2
    · rw [if_neg y] at h2; omega
theorem fsf_end (p : Nat → Bool) : ∀ d k, fsf p d k < k + d → p (fsf p d k) = false := by
  intro d
  induction d with
  | zero => intro k h1; have : fsf p 0 k = k := rfl; omega
  | succ d ih =>
    intro k h1
    unfold fsf at h1 ⊢
    by_cases y : p k = true
    · rw [if_pos y] at h1 ⊢
      exact ih (k + 1) (by omega)
    · rw [if_neg y] at h1 ⊢
      simpa using y
theorem gCn_mono {s t : Nat} (h : s ≤ t) : gCn g t ≤ gCn g s := cn_mono fun k _ y => decide_eq_true (by have := of_decide_eq_true y; omega)
theorem pI_down {s t : Nat} (h : s ≤ t) (y : pI g t = true) : pI g s = true := by
  have h1 := gCn_mono (g := g) h
  have h2 : t < gCn g t := of_decide_eq_true y
  exact decide_eq_true (by omega)
theorem ord_cnt {o : Nat → Nat} (D : Ord g (gN g) o) (hi : i < gN g) (t : Nat) : t < gC g (o i) ↔ i < gCn g t := by
  obtain ⟨o1, o2⟩ := D i hi
  constructor
  · intro y
    have := cn_strict (p := fun k => decide (Bef g k (o i))) (q := fun k => decide (t < gC g k)) (n := gN g) (fun k _ q => decide_eq_true (by have := of_decide_eq_true q; omega)) o1 (decide_eq_false Bef.irr) (decide_eq_true y)
    have e1 : cn (fun k => decide (Bef g k (o i))) (gN g) = i := o2
    unfold gCn; omega
  · intro y
    refine Nat.lt_of_not_le fun q => ?_
    have := cn_mono (p := fun k => decide (t < gC g k)) (q := fun k => decide (Bef g k (o i))) (n := gN g) (fun k _ r => decide_eq_true (by have := of_decide_eq_true r; omega))
    have e1 : cn (fun k => decide (Bef g k (o i))) (gN g) = i := o2
    unfold gCn at y; omega
theorem indexByOrder_ok (H : Sg B h a g) (C : CiC h c z) (hd : ∀ i, i ≤ 10 → ¬ ciW c (a + i)) : ∃ h1 z1, f_X0_indexByOrder h c a = some (w (gI g), h1) ∧ CiC h1 c z1 ∧ fr (ciW c) h h1 := by
  have O := H.ok
  have hn := O.n
  obtain ⟨h1, z1, o, e1, C1, F1, I1, J1, D1, -⟩ := sortNotes_ok H C hd
  have H1 := H.ci F1 hd
  have L : ∀ d fu t, gN g - t = d → t ≤ gN g → d < fu → f_X0_indexByOrder_L7 fu h1 c a (w t) = some (w (fsf (pI g) d t)) := by
    intro d
    induction d with
    | zero =>
      intro fu t h1 h2 h3
      obtain ⟨fu, rfl⟩ : ∃ y, fu = y + 1 := ⟨fu - 1, by omega⟩
      have e : t = gN g := by omega
      subst e
      simp only [f_X0_indexByOrder_L7, H1.i0, Option.bind_some, if_pos is_ge]
      rfl
    | succ d ih =>
      intro fu t h1 h2 h3
      obtain ⟨fu, rfl⟩ : ∃ y, fu = y + 1 := ⟨fu - 1, by omega⟩
      have ht : t < gN g := by omega
      have o1 := (D1 t ht).1
      have c1 := gC_lt O o1
      have oc := ord_cnt D1 ht t
      simp only [f_X0_indexByOrder_L7, H1.i0, Option.bind_some, if_neg (is_lt ht (by omega)), C1.r2, C1.r1, C1.a1 (show t < 10 by omega), J1 t ht, C1.a2 (show o t < 10 by omega), I1 _ o1, w_le (show gC g (o t) < 2147483648 by omega) (show t < 2147483648 by omega), w_succ]
      unfold fsf
      by_cases y : gC g (o t) ≤ t
      · rw [if_pos y, if_neg (by
          unfold pI
          rw [decide_eq_false (by omega)]; decide)]
      · rw [if_neg y, if_pos (show pI g t = true from decide_eq_true (by omega))]
        exact ih fu (t + 1) (by omega) (by omega) (by omega)
  have e2 : f_X0_indexByOrder_L7 FV h1 c a (0 : Int32) = some (w (gI g)) := L (gN g) FV 0 (by omega) (by omega) (by rw [FV_eq]; omega)
  refine ⟨h1, z1, ?_, C1, F1⟩
  unfold f_X0_indexByOrder
  simp only [C.gd, e1, Option.bind_some, e2]
theorem mindex_ok (H : Mg B h m g) : f_X10_indexNow h m = some (w (gI g)) := by
  have O := H.ok
  have hn := O.n
  have inn : ∀ t, t ≤ 10 → f_X10_indexNow_L16 FV h m (w t) (0 : Int32) (0 : Int32) = some (w (gCn g t)) := by
    intro t ht
    unfold gCn
    rw [← cn_sm]
    exact sum_loop (fun fu k b => f_X10_indexNow_L16 fu h m (w t) b (w k)) (gN g) (fun k => (decide (t < gC g k)).toNat) (by omega) (fun fu k b hk => by
      have c1 := gC_lt O hk
      show f_X10_indexNow_L16 (fu + 1) h m (w t) b (w k) = f_X10_indexNow_L16 fu h m (w t) (b + w (decide (t < gC g k)).toNat) (w (k + 1))
      simp only [f_X10_indexNow_L16, H.r0, H.n0, H.gd, Option.bind_some, if_neg (is_lt hk (by omega)), mcited H (show k < 31 by omega), w_le (show gC g k < 2147483648 by omega) (show t < 2147483648 by omega), w_succ]
      by_cases y : gC g k ≤ t
      · rw [if_pos y, decide_eq_false (by omega)]; rfl
      · rw [if_neg y, decide_eq_true (by omega)]; rfl) (fun fu b => by
      show f_X10_indexNow_L16 (fu + 1) h m (w t) b (w (gN g)) = some b
      simp only [f_X10_indexNow_L16, H.r0, H.n0, Option.bind_some, if_pos is_ge])
  have L : ∀ d fu t, gN g - t = d → t ≤ gN g → d < fu → ∃ s, f_X10_indexNow_L2 fu h m (w t) = some s ∧ Sum.elim (fun q3 => some q3) (fun t4 => some t4) s = some (w (fsf (pI g) d t)) := by
    intro d
    induction d with
    | zero =>
      intro fu t h1 h2 h3
      obtain ⟨fu, rfl⟩ : ∃ y, fu = y + 1 := ⟨fu - 1, by omega⟩
      have e : t = gN g := by omega
      subst e
      refine ⟨Sum.inr (w (gN g)), ?_, rfl⟩
      simp only [f_X10_indexNow_L2, H.r0, H.n0, Option.bind_some, if_pos is_ge]
    | succ d ih =>
      intro fu t h1 h2 h3
      obtain ⟨fu, rfl⟩ : ∃ y, fu = y + 1 := ⟨fu - 1, by omega⟩
      have ht : t < gN g := by omega
      have cl : gCn g t ≤ gN g := cn_le _ _
      simp only [f_X10_indexNow_L2, H.r0, H.n0, Option.bind_some, if_neg (is_lt ht (by omega)), inn t (by omega), w_lt (show t < 2147483648 by omega) (show gCn g t < 2147483648 by omega), w_succ]
      unfold fsf
      by_cases y : t < gCn g t
      · rw [if_pos y, if_pos (show pI g t = true from decide_eq_true y)]
        exact ih fu (t + 1) (by omega) (by omega) (by omega)
      · rw [if_neg y, if_neg (by
          unfold pI
          rw [decide_eq_false y]; decide)]
        exact ⟨_, rfl, rfl⟩
  obtain ⟨s, e1, e2⟩ := L (gN g) FV 0 (by omega) (by omega) (by rw [FV_eq]; omega)
  have e1' : f_X10_indexNow_L2 FV h m (0 : Int32) = some s := e1
  unfold f_X10_indexNow
  rw [e1', Option.bind_some]
  exact e2
def gGe (g : GS) (t : Nat) : Nat := cn (fun k => decide (t ≤ gC g k)) (gN g)
theorem gGe_cn (t : Nat) : gGe g (t + 1) = gCn g t := cn_ext fun k _ => by
  by_cases y : t < gC g k
  · rw [decide_eq_true y, decide_eq_true (by omega)]
  · rw [decide_eq_false y, decide_eq_false (by omega)]
theorem cn_both {P Q R : Nat → Bool} {n : Nat} (h : ∀ k, k < n → (R k).toNat = (P k).toNat + (Q k).toNat) : cn R n = cn P n + cn Q n := by
  induction n with
  | zero => rfl
  | succ n ih => rw [cn_s, cn_s, cn_s, ih (fun k hk => h k (by omega)), h n (by omega)]; omega
theorem gGe_s (t : Nat) : gGe g t = gGe g (t + 1) + cn (fun k => gC g k == t) (gN g) := cn_both fun k _ => by
  by_cases y : gC g k = t
  · rw [y]; simp
  · by_cases d : t ≤ gC g k
    · rw [decide_eq_true d, decide_eq_true (by omega)]; simp [y]
    · have y0 : (gC g k == t) = false := beq_eq_false_iff_ne.mpr y
      rw [decide_eq_false d, decide_eq_false (by omega), y0]; rfl
theorem gGe_10 (O : Ok B g) : gGe g 10 = 0 := by
  have : gGe g 10 = cn (fun _ => false) (gN g) := cn_ext fun k hk => decide_eq_false (by have := gC_lt O hk; omega)
  rw [this]
  have z : ∀ n, cn (fun _ => false) n = 0 := fun n => by
    induction n with
    | zero => rfl
    | succ n ih => rw [cn_s, ih]; rfl
  exact z _
theorem gI_is (O : Ok B g) {i : Nat} (hi : i ≤ 9) (h1 : 0 < i → i ≤ gGe g i) (h2 : ∀ t, i < t → t ≤ 9 → gGe g t < t) : gI g = i := by
  have le := fsf_le (pI g) (gN g) 0
  have all := fsf_all (pI g) (gN g) 0
  have en := fsf_end (pI g) (gN g) 0
  have no : ¬ i < gI g := fun y => by
    have p1 := all i (Nat.zero_le _) y
    have p2 : i < gCn g i := of_decide_eq_true p1
    rw [← gGe_cn] at p2
    by_cases d : i = 9
    · subst d
      have e10 : gGe g (9 + 1) = 0 := gGe_10 O
      omega
    · have := h2 (i + 1) (by omega) (by omega)
      omega
  have no2 : ¬ gI g < i := fun y => by
    have p2 : i ≤ gGe g i := h1 (by omega)
    obtain ⟨q, rfl⟩ : ∃ q, i = q + 1 := ⟨i - 1, by omega⟩
    rw [gGe_cn] at p2
    have cl : gCn g q ≤ gN g := cn_le _ _
    have p3 : pI g (gI g) = true := pI_down (t := q) (by omega) (decide_eq_true (by omega))
    have p4 : pI g (gI g) = false := en (by show fsf (pI g) (gN g) 0 < _; have : gI g = fsf (pI g) (gN g) 0 := rfl; omega)
    rw [p3] at p4
    exact absurd p4 (by decide)
  omega
theorem z_up_up {α : Type} (f : Nat → α) (b : Nat) (x y : α) : z_up (z_up f b x) b y = z_up f b y := by
  funext i
  by_cases d : i = b
  · rw [d, z_up_s, z_up_s]
  · rw [z_up_n _ _ d, z_up_n _ _ d, z_up_n _ _ d]
theorem fillA {b N : Nat} {f : Nat → Int32} (hb : kK ≤ b) (hc : h.2 b = .inl (.int, N, .inl f)) (hN : N ≤ 1000) (v : Int32) : ∃ f1, f_J7_fill_53178 h b v = some (h.1, z_up h.2 b (.inl (.int, N, .inl f1))) ∧ ∀ i, i < N → f1 i = v := by
  obtain ⟨h1, e1, ⟨f1, L1, K1⟩⟩ := sloop0 (fun fu k (q : PH) => f_J7_fill_53178_L5 fu q b v (w k) (w N)) id N (fun k q => ∃ f1, (q.1 = h.1 ∧ ((k = 0 ∧ q = h ∧ f1 = f) ∨ q = (h.1, z_up h.2 b (.inl (.int, N, .inl f1))))) ∧ ∀ i, i < k → f1 i = v) (by omega) (fun fu k q hk hI => by
    obtain ⟨f1, ⟨L0, L1⟩, K1⟩ := hI
    have hq : q.2 b = .inl (.int, N, .inl f1) := by
      rcases L1 with ⟨-, y1, y2⟩ | y
      · rw [y1, y2]; exact hc
      · rw [y]; exact z_up_s _ _ _
    have e1 := asI_of (x := v) hb hq (by omega) hk
    have e2 : (q.1, z_up q.2 b (.inl (.int, N, .inl (upd f1 k v)))) = (h.1, z_up h.2 b (.inl (.int, N, .inl (upd f1 k v)))) := by
      rcases L1 with ⟨-, y1, y2⟩ | y
      · rw [y1]
      · rw [y]
        show (h.1, z_up (z_up h.2 b _) b _) = _
        rw [z_up_up]
    have e3 : asI .int q b (w k) v = some (h.1, z_up h.2 b (.inl (.int, N, .inl (upd f1 k v)))) := by
      rw [← e2]; exact e1
    refine ⟨(h.1, z_up h.2 b (.inl (.int, N, .inl (upd f1 k v)))), ?_, upd f1 k v, ⟨rfl, Or.inr rfl⟩, fun i hi => ?_⟩
    · show f_J7_fill_53178_L5 (fu + 1) q b v (w k) (w N) = f_J7_fill_53178_L5 fu _ b v (w (k + 1)) (w N)
      simp only [f_J7_fill_53178_L5, if_neg (lt_199 hk hN), e3, Option.bind_some, w_succ]
    · by_cases c : i = k
      · rw [c, upd_eq]
      · rw [upd_ne c]; exact K1 i (by omega)) (fun fu q hI => by
    show f_J7_fill_53178_L5 (fu + 1) q b v (w N) (w N) = some q
    simp only [f_J7_fill_53178_L5, if_pos is_ge]) (k := 0) (s := h) (Nat.zero_le _) ⟨f, ⟨rfl, Or.inl ⟨rfl, rfl, rfl⟩⟩, fun i hi => by omega⟩
  have e1' : f_J7_fill_53178_L5 FV h b v (0 : Int32) (w N) = some h1 := e1
  have lA : alA .int h b = some (w N) := alA_of hc
  have fin : f_J7_fill_53178 h b v = some h1 := by
    unfold f_J7_fill_53178
    rw [lA, Option.bind_some, e1']
    rfl
  rcases L1.2 with ⟨y0, y1, y2⟩ | y
  · refine ⟨f, ?_, fun i hi => by omega⟩
    rw [fin, y1]
    congr 1
    show h = (h.1, _)
    have : z_up h.2 b (.inl (.int, N, .inl f)) = h.2 := by
      funext i
      by_cases d : i = b
      · rw [d, z_up_s, hc]
      · rw [z_up_n _ _ d]
    rw [this]
  · exact ⟨f1, by rw [fin, y], K1⟩
theorem indexByTally_ok (H : Sg B h a g) (C : CiC h c z) (hd : ∀ i, i ≤ 10 → ¬ ciW c (a + i)) : ∃ h1 z1, f_X0_indexByTally h c a = some (w (gI g), h1) ∧ CiC h1 c z1 ∧ fr (ciW c) h h1 := by
  have O := H.ok
  have hn := O.n
  obtain ⟨h0, z0, e0, C0, I0, F0⟩ := fillCiting_ok H C hd
  obtain ⟨f1, e1, K1⟩ := fillA (b := c + 4) (Nat.le_trans C0.kK (Nat.le_add_right _ _)) C0.2.2.2.2.2.2.1 (by decide) 0
  have C1 := C0.row3 f1
  have F1 : fr (ciW c) h0 (h0.1, z_up h0.2 (c + 4) (.inl (.int, 10, .inl f1))) := fr.up ⟨by omega, by omega⟩
  have J1 : ∀ x, x < gN g → setR z0 3 f1 2 x = w (gC g x) := I0
  have T1 : ∀ t, t < 10 → setR z0 3 f1 3 t = w 0 := fun t ht => by rw [setR_0]; exact K1 t ht
  generalize (h0.1, z_up h0.2 (c + 4) (.inl (.int, 10, .inl f1))) = h1 at *
  have H1 := (H.ci F0 hd).ci F1 hd
  obtain ⟨h2, e2, ⟨z2, C2, J2, T2⟩, F2⟩ := sloop0 (fun fu k (q : PH) => f_X0_indexByTally_L15 fu q c a (w k)) id (gN g) (fun k q => (∃ z1, CiC q c z1 ∧ (∀ x, x < gN g → z1 2 x = w (gC g x)) ∧ ∀ t, t < 10 → z1 3 t = w (cn (fun x => gC g x == t) k)) ∧ fr (ciW c) h1 q) (by omega) (fun fu k q hk hI => by
    obtain ⟨⟨z1, C1, J1, T1⟩, F1⟩ := hI
    have Hq := H1.ci F1 hd
    have c1 := gC_lt O hk
    obtain ⟨q1, e1, C2, F2⟩ := C1.s3 (k := gC g k) (x := w (cn (fun x => gC g x == gC g k) k + 1)) c1
    refine ⟨q1, ?_, ⟨_, C2, J1, fun t ht => ?_⟩, F1.trans F2⟩
    · show f_X0_indexByTally_L15 (fu + 1) q c a (w k) = f_X0_indexByTally_L15 fu q1 c a (w (k + 1))
      simp only [f_X0_indexByTally_L15, Hq.i0, Option.bind_some, if_neg (is_lt hk (by omega)), C1.r3, C1.r2, C1.a2 (show k < 10 by omega), J1 k hk, C1.a3 c1, T1 _ c1, e1, w_succ]
    · show upd (z1 3) (gC g k) _ t = _
      rw [cn_s]
      by_cases d : t = gC g k
      · rw [d, upd_eq]; simp
      · rw [upd_ne d, T1 t ht]
        have : (gC g k == t) = false := by simpa using Ne.symm d
        rw [this]; rfl) (fun fu q hI => by
    have Hq := H1.ci hI.2 hd
    show f_X0_indexByTally_L15 (fu + 1) q c a (w (gN g)) = some q
    simp only [f_X0_indexByTally_L15, Hq.i0, Option.bind_some, if_pos is_ge]) (k := 0) (s := h1) (Nat.zero_le _) ⟨⟨_, C1, J1, T1⟩, fr.refl _ _⟩
  have e2' : f_X0_indexByTally_L15 FV h1 c a (0 : Int32) = some h2 := e2
  have ge_le : ∀ t, gGe g t ≤ gN g := fun t => cn_le _ _
  have L : ∀ i fu, i < fu → i ≤ 9 → (∀ t, i < t → t ≤ 9 → gGe g t < t) → ∃ s, f_X0_indexByTally_L49 fu h2 c (w (gGe g (i + 1))) (w i) = some s ∧ Sum.elim (fun q12 => some q12) (fun _ => some ((0 : Int32), h2)) s = some (w (gI g), h2) := by
    intro i
    induction i with
    | zero =>
      intro fu h1 h2' h3
      obtain ⟨fu, rfl⟩ : ∃ y, fu = y + 1 := ⟨fu - 1, by omega⟩
      refine ⟨Sum.inr (), ?_, ?_⟩
      · simp only [f_X0_indexByTally_L49, if_pos (show w 0 ≤ 0 from Int32.le_refl _)]
      · rw [gI_is O (i := 0) (by omega) (fun y => by omega) h3]; rfl
    | succ i ih =>
      intro fu h1 h2' h3
      obtain ⟨fu, rfl⟩ : ∃ y, fu = y + 1 := ⟨fu - 1, by omega⟩
      have c0 : ¬ w (i + 1) ≤ 0 := fun y => by
        have := (w_le (a := i + 1) (b := 0) (by omega) (by decide)).mp y
        omega
      have gl := ge_le (i + 1)
      have es : w (gGe g (i + 1 + 1)) + w (cn (fun x => gC g x == i + 1) (gN g)) = w (gGe g (i + 1)) := by
        rw [w_add, ← gGe_s]
      simp only [f_X0_indexByTally_L49, if_neg c0, C2.r3, C2.a3 (show i + 1 < 10 by omega), T2 _ (show i + 1 < 10 by omega), Option.bind_some, es, w_lt (show gGe g (i + 1) < 2147483648 by omega) (show i + 1 < 2147483648 by omega), w_pred (show 1 ≤ i + 1 by omega)]
      by_cases y : gGe g (i + 1) < i + 1
      · rw [if_pos y]
        exact ih fu (by omega) (by omega) (fun t q1 q2 => by
          by_cases d : t = i + 1
          · rw [d]; exact y
          · exact h3 t (by omega) q2)
      · rw [if_neg y]
        refine ⟨Sum.inl (w (i + 1), h2), rfl, ?_⟩
        rw [gI_is O (i := i + 1) h2' (fun _ => by omega) h3]
        rfl
  obtain ⟨s, e3, e4⟩ := L 9 FV (by rw [FV_eq]; decide) (by decide) (fun t q1 q2 => by omega)
  have e3' : f_X0_indexByTally_L49 FV h2 c (0 : Int32) (9 : Int32) = some s := by
    rw [gGe_10 O] at e3
    exact e3
  refine ⟨h2, z2, ?_, C2, (F0.trans F1).trans F2⟩
  unfold f_X0_indexByTally
  simp only [C.gd, e0, C0.r3, e1, e2', e3', Option.bind_some]
  exact e4
theorem misAhead (H : Mg B h m g) {o : Nat} (hk : k < gN g) (ho : o < gN g) : f_X10_isAhead h m (w o) (w k) = some (decide (Bef g o k)) := by
  have O := H.ok
  have hn := O.n
  have c1 := gC_lt O hk
  have c2 := gC_lt O ho
  have t1 := (O.note hk).2.2.2.2.1
  have t2 := (O.note ho).2.2.2.2.1
  unfold f_X10_isAhead
  simp only [H.gd, mcited H (show o < 31 by omega), mcited H (show k < 31 by omega), H.of1 hk, H.of1 ho, Option.bind_some, w_inj (show gC g o < 2147483648 by omega) (show gC g k < 2147483648 by omega), w_inj (show gT g o < 2147483648 by omega) (show gT g k < 2147483648 by omega), w_le (show k < 2147483648 by omega) (show o < 2147483648 by omega), w_le (show gC g o < 2147483648 by omega) (show gC g k < 2147483648 by omega), w_le (show gT g o < 2147483648 by omega) (show gT g k < 2147483648 by omega)]
  by_cases d : gC g o = gC g k
  · rw [if_pos d]
    by_cases d2 : gT g o = gT g k
    · rw [if_pos d2]
      by_cases q : k ≤ o
      · rw [if_pos q, decide_eq_false (by omega)]
      · rw [if_neg q, decide_eq_true (by omega)]
    · rw [if_neg d2]
      by_cases q : gT g o ≤ gT g k
      · rw [if_pos q, decide_eq_false (by omega)]
      · rw [if_neg q, decide_eq_true (by omega)]
  · rw [if_neg d]
    by_cases q : gC g o ≤ gC g k
    · rw [if_pos q, decide_eq_false (by omega)]
    · rw [if_neg q, decide_eq_true (by omega)]
theorem mrank (H : Mg B h m g) (hk : k < gN g) (x : Int32) : f_X10_noteByCitations_L17 FV h m x (w k) (0 : Int32) (0 : Int32) = some (w (rk g (gN g) k)) := by
  have hn := H.ok.n
  unfold rk
  rw [← cn_sm]
  exact sum_loop (fun fu o b => f_X10_noteByCitations_L17 fu h m x (w k) b (w o)) (gN g) (fun o => (decide (Bef g o k)).toNat) (by omega) (fun fu o b ho => by
    show f_X10_noteByCitations_L17 (fu + 1) h m x (w k) b (w o) = f_X10_noteByCitations_L17 fu h m x (w k) (b + w (decide (Bef g o k)).toNat) (w (o + 1))
    simp only [f_X10_noteByCitations_L17, H.r0, H.n0, H.gd, Option.bind_some, if_neg (is_lt ho (by omega)), w_inj (show o < 2147483648 by omega) (show k < 2147483648 by omega), misAhead H hk ho, w_succ]
    by_cases d : o = k
    · rw [if_pos d, d, decide_eq_false Bef.irr]; rfl
    · rw [if_neg d]
      by_cases y : Bef g o k
      · rw [decide_eq_true y]; rfl
      · rw [decide_eq_false y]; rfl) (fun fu b => by
    show f_X10_noteByCitations_L17 (fu + 1) h m x (w k) b (w (gN g)) = some b
    simp only [f_X10_noteByCitations_L17, H.r0, H.n0, Option.bind_some, if_pos is_ge])
theorem mnote_in (O : Ok B (e 0)) (M : MoC h m e) {o r : Nat} (ho : o < gN (e 0)) (hr : rk (e 0) (gN (e 0)) o = r) : ∃ h1, f_X10_noteByCitations h m (w r) = some (w o, h1) ∧ MoC h1 m (setR e 8 fun _ => 0) ∧ fr (mW m) h h1 := by
  have H : Mg B h m (e 0) := ⟨O, e, M, rfl⟩
  have hn := O.n
  obtain ⟨h1, e1, M1, F1⟩ := M.w8 0
  have rr : r < gN (e 0) := by rw [← hr]; exact rk_self ho
  have L : ∀ d fu t, o - t = d → t ≤ o → d < fu → f_X10_noteByCitations_L2 fu h m (w r) (w t) = some (Sum.inl (w o, h1)) := by
    intro d
    induction d with
    | zero =>
      intro fu t q1 q2 q3
      obtain ⟨fu, rfl⟩ : ∃ y, fu = y + 1 := ⟨fu - 1, by omega⟩
      have e : t = o := by omega
      subst e
      simp only [f_X10_noteByCitations_L2, H.r0, H.n0, Option.bind_some, if_neg (is_lt ho (by omega)), mrank H ho, hr, if_true, e1]
    | succ d ih =>
      intro fu t q1 q2 q3
      obtain ⟨fu, rfl⟩ : ∃ y, fu = y + 1 := ⟨fu - 1, by omega⟩
      have ht : t < gN (e 0) := by omega
      have ne : ¬ w (rk (e 0) (gN (e 0)) t) = w r := fun y => by
        have rt := rk_self (g := e 0) ht
        have := (w_inj (by omega) (by omega)).mp y
        have := rk_inj ht ho (this.trans hr.symm)
        omega
      simp only [f_X10_noteByCitations_L2, H.r0, H.n0, Option.bind_some, if_neg (is_lt ht (by omega)), mrank H ht, if_neg ne, w_succ]
      exact ih fu (t + 1) (by omega) (by omega) (by omega)
  have e2 : f_X10_noteByCitations_L2 FV h m (w r) (0 : Int32) = some (Sum.inl (w o, h1)) := L o FV 0 (by omega) (by omega) (by rw [FV_eq]; omega)
  refine ⟨h1, ?_, M1, F1⟩
  unfold f_X10_noteByCitations
  rw [e2]; rfl
theorem mnote_out (O : Ok B (e 0)) (M : MoC h m e) {x : Int32} (hx : ∀ k, k < gN (e 0) → ¬ x = w k) : ∃ h1, f_X10_noteByCitations h m x = some (0, h1) ∧ MoC h1 m (setR e 8 fun _ => 1) ∧ fr (mW m) h h1 := by
  have H : Mg B h m (e 0) := ⟨O, e, M, rfl⟩
  have hn := O.n
  obtain ⟨h1, e1, M1, F1⟩ := M.w8 1
  have L : ∀ d fu t, gN (e 0) - t = d → t ≤ gN (e 0) → d < fu → f_X10_noteByCitations_L2 fu h m x (w t) = some (Sum.inr ()) := by
    intro d
    induction d with
    | zero =>
      intro fu t q1 q2 q3
      obtain ⟨fu, rfl⟩ : ∃ y, fu = y + 1 := ⟨fu - 1, by omega⟩
      have e : t = gN (e 0) := by omega
      subst e
      simp only [f_X10_noteByCitations_L2, H.r0, H.n0, Option.bind_some, if_pos is_ge]
    | succ d ih =>
      intro fu t q1 q2 q3
      obtain ⟨fu, rfl⟩ : ∃ y, fu = y + 1 := ⟨fu - 1, by omega⟩
      have ht : t < gN (e 0) := by omega
      have ne : ¬ w (rk (e 0) (gN (e 0)) t) = x := fun y => hx _ (rk_self ht) y.symm
      simp only [f_X10_noteByCitations_L2, H.r0, H.n0, Option.bind_some, if_neg (is_lt ht (by omega)), mrank H ht, if_neg ne, w_succ]
      exact ih fu (t + 1) (by omega) (by omega) (by omega)
  have e2 : f_X10_noteByCitations_L2 FV h m x (0 : Int32) = some (Sum.inr ()) := L (gN (e 0)) FV 0 (by omega) (by omega) (by rw [FV_eq]; omega)
  refine ⟨h1, ?_, M1, F1⟩
  unfold f_X10_noteByCitations
  rw [e2]
  simp only [Option.bind_some, Sum.elim_inr, e1]
end INDEX
