/-! days, and what a landing fills: the class and the reference -/
section DAYS
variable {B : Nat} {g : GS} {h : PH} {a m k p : Nat} {s e : CS}
/-- one index of the row written, apart from the counts: the pieces of Rel that stay -/
theorem Rel.to (R : Rel s g) {s' : CS} {g' : GS} (hn : gN g' = gN g) (hm : gM g' = gM g) (h1 : s' 0 0 = s 0 0) (h2 : s' 8 0 = s 8 0) (k0 : g' 0 = g 0) (k1 : g' 1 = g 1) (q2 : s' 13 0 = g' 2) (q3 : s' 12 0 = g' 3) (q4 : s' 14 0 = g' 4) (q5 : s' 15 0 = g' 5) (q6 : s' 16 0 = g' 7) (n : ∀ i, i < gN g → s' 1 i = g' (44 + 4 * i) ∧ s' 2 i = g' (45 + 4 * i) ∧ s' 3 i = wc (gH g' i) ∧ s' 4 i = g' (47 + 4 * i)) (pg : ∀ q, q < 12 → s' 5 q = g' (8 + q) ∧ s' 6 q = g' (20 + q) ∧ s' 7 q = g' (32 + q)) (nt : ∀ i, i < gM g → s' 9 i = g' (84 + 3 * i) ∧ s' 10 i = g' (85 + 3 * i) ∧ s' 11 i = g' (86 + 3 * i)) : Rel s' g' := ⟨by rw [h1, k0]; exact R.1, by rw [h2, k1]; exact R.2.1, q2, q3, q4, q5, q6, by rw [hn]; exact n, pg, by rw [hm]; exact nt⟩
def stp (x : Int32) (p : Nat) : Nat := if x = 1 then (p + 1) % 12 else if x = -1 then (p + 11) % 12 else p
theorem stp_w {x : Int32} (hp : p < 12) (hx : x = 0 ∨ x = 1 ∨ x = -1) : zrem ((w p + x) + (12 : Int32)) (12 : Int32) = w (stp x p) := by
  rcases hx with rfl | rfl | rfl
  · have : ∀ p, p < 12 → zrem ((w p + (0 : Int32)) + (12 : Int32)) (12 : Int32) = w (stp 0 p) := by decide +kernel
    exact this p hp
  · have : ∀ p, p < 12 → zrem ((w p + (1 : Int32)) + (12 : Int32)) (12 : Int32) = w (stp 1 p) := by decide +kernel
    exact this p hp
  · have : ∀ p, p < 12 → zrem ((w p + (-1 : Int32)) + (12 : Int32)) (12 : Int32) = w (stp (-1) p) := by decide +kernel
    exact this p hp
theorem stp_0 (p : Nat) : stp 0 p = p := by
  unfold stp
  rw [if_neg (by decide), if_neg (by decide)]
theorem stp_lt {x : Int32} (hp : p < 12) : stp x p < 12 := by
  unfold stp
  split
  · omega
  · split
    · omega
    · exact hp
def nP (g : GS) (k : Nat) : Nat := if gH g k = 0 then stp (g (8 + gP g k)) (gP g k) else gP g k
def mv (g : GS) (k : Nat) : Bool := decide (gH g k = 0) && decide (¬ g (8 + gP g k) = 0)
def ePg (g : GS) (k p : Nat) : GS := upd g (44 + 4 * k) (w p)
theorem nP_lt (O : Ok B g) (hk : k < gN g) : nP g k < 12 := by
  have hp := (O.note hk).2.1
  unfold nP
  split
  · exact stp_lt hp
  · exact hp
theorem nP_no (hm : mv g k = false) : nP g k = gP g k := by
  unfold mv at hm
  unfold nP
  by_cases c : gH g k = 0
  · rw [if_pos c]
    have : g (8 + gP g k) = 0 := by simpa [c] using hm
    rw [this, stp_0]
  · rw [if_neg c]
theorem ePg_id (O : Ok B g) (hk : k < gN g) : ePg g k (gP g k) = g := by
  funext i
  unfold ePg upd
  by_cases c : i = 44 + 4 * k
  · rw [if_pos c, c]; exact (O.note hk).1.symm
  · rw [if_neg c]
theorem Ok.pg_ok (O : Ok B g) (hk : k < gN g) (hp : p < 12) : Ok B (ePg g k p) := by
  have hn := O.n
  have same : ∀ i, i ≠ 44 + 4 * k → ePg g k p i = g i := fun i hi => upd_ne hi
  have n2 : ePg g k p (44 + 4 * k) = w p := upd_eq _ _ _
  have q2 : gP (ePg g k p) k = p := (congrArg nv n2).trans (nv_w (by omega))
  refine O.keep (same 0 (by omega)) (same 1 (by omega)) (same 2 (by omega)) (by rw [same 3 (by omega)]; exact O.li) (fun i hi => ?_) (fun q hq => (O.page hq).same (same _ (by omega)) (same _ (by omega)) (same _ (by omega))) (fun i hi => (O.net hi).same (fun z hz => same _ (by omega))) ?_
  · by_cases e : i = k
    · subst e
      obtain ⟨q1, q2', q3, q4, q5, q6, q7, q8, q9, q10⟩ := O.note hk
      unfold okNote
      rw [q2]
      unfold gH gT gU gN
      rw [same (46 + 4 * i) (by omega), same (45 + 4 * i) (by omega), same (47 + 4 * i) (by omega), same 0 (by omega)]
      exact ⟨n2, hp, q3, q4, q5, q6, q7, q8, q9, q10⟩
    · exact (O.note hi).same (by unfold gN; rw [same 0 (by omega)]; exact Nat.le_refl _) (fun z hz => same _ (by omega))
  · rw [same 6 (by omega), O.g6]
    congr 1
    exact cn_ext fun i hi => by unfold gH; rw [same (46 + 4 * i) (by omega)]
theorem page_put (H : Sg B h a g) (hk : k < gN g) (hp : p < 12) : ∃ h', asI .int h (a + 1) (w k) (w p) = some h' ∧ Sg B h' a (ePg g k p) ∧ fr (stW a) h h' := by
  have hn := H.ok.n
  obtain ⟨O, s, S, R⟩ := H
  obtain ⟨x1, e1, S1, F1⟩ := S.s1 (x := w p) (Nat.lt_of_lt_of_le hk hn)
  refine ⟨x1, e1, ⟨O.pg_ok hk hp, _, S1, ?_⟩, F1⟩
  have same : ∀ i, i ≠ 44 + 4 * k → ePg g k p i = g i := fun i hi => upd_ne hi
  have en : gN (ePg g k p) = gN g := by unfold gN; rw [same 0 (by omega)]
  have em : gM (ePg g k p) = gM g := by unfold gM; rw [same 1 (by omega)]
  obtain ⟨-, -, r3, r4, r5, r6, r7, r8, r9, r10⟩ := id R
  refine R.to en em rfl rfl (same 0 (by omega)) (same 1 (by omega)) (by rw [same 2 (by omega)]; exact r3) (by rw [same 3 (by omega)]; exact r4) (by rw [same 4 (by omega)]; exact r5) (by rw [same 5 (by omega)]; exact r6) (by rw [same 7 (by omega)]; exact r7) (fun i hi => ?_) (fun q hq => ?_) (fun i hi => ?_)
  · obtain ⟨z1, z2, z3, z4⟩ := r8 i hi
    show upd (s 1) k (w p) i = _ ∧ s 2 i = _ ∧ s 3 i = _ ∧ s 4 i = _
    unfold gH
    rw [same (45 + 4 * i) (by omega), same (46 + 4 * i) (by omega), same (47 + 4 * i) (by omega)]
    refine ⟨?_, z2, z3, z4⟩
    by_cases e : i = k
    · subst e; rw [upd_eq]; exact (upd_eq _ _ _).symm
    · rw [upd_ne e, same (44 + 4 * i) (by omega)]; exact z1
  · rw [same (8 + q) (by omega), same (20 + q) (by omega), same (32 + q) (by omega)]
    exact r9 q hq
  · rw [same (84 + 3 * i) (by omega), same (85 + 3 * i) (by omega), same (86 + 3 * i) (by omega)]
    exact r10 i hi
/-- the first n notes drifted -/
def eMs (g : GS) : Nat → GS
  | 0 => g
  | n + 1 => ePg (eMs g n) n (nP g n)
theorem eMs_ne {n i : Nat} (h : ∀ k, k < n → i ≠ 44 + 4 * k) : eMs g n i = g i := by
  induction n with
  | zero => rfl
  | succ n ih => exact (upd_ne (h n (by omega))).trans (ih fun k hk => h k (by omega))
theorem eMs_self {n k : Nat} (h : n ≤ k) : gP (eMs g n) k = gP g k := by
  unfold gP
  rw [eMs_ne (fun j hj => by omega)]
theorem eMs_ok (O : Ok B g) : ∀ n, n ≤ gN g → Ok B (eMs g n) := by
  intro n
  induction n with
  | zero => intro _; exact O
  | succ n ih =>
    intro hn
    have e0 : gN (eMs g n) = gN g := by unfold gN; rw [eMs_ne (fun k _ => by omega)]
    exact (ih (by omega)).pg_ok (by omega) (nP_lt O (by omega))
theorem drift_ok (H : Sg B h a g) : ∃ h', f_X1_drift h a = some (w (cn (mv g) (gN g)), h') ∧ Sg B h' a (eMs g (gN g)) ∧ fr (stW a) h h' := by
  have hn := H.ok.n
  have O := H.ok
  have e0 : ∀ n, gN (eMs g n) = gN g := fun n => by unfold gN; rw [eMs_ne (fun k _ => by omega)]
  obtain ⟨⟨h1, c1⟩, e1, H1, E1, F1⟩ := sloop0 (fun fu k (q : PH × Int32) => f_X1_drift_L4 fu q.1 a q.2 (w k)) (fun q => (q.2, q.1)) (gN g) (fun k q => Sg B q.1 a (eMs g k) ∧ q.2 = w (cn (mv g) k) ∧ fr (stW a) h q.1) (by omega) (fun fu k q hk hI => by
    obtain ⟨Hq, Eq, Fq⟩ := hI
    have hk' : k < gN (eMs g k) := by rw [e0 k]; exact hk
    have i0 : rdI q.1 a 9 0 = some (w (gN g)) := by rw [Hq.i0, e0 k]
    have a1 : alI .int q.1 (a + 1) (w k) = some (w (gP g k)) := by rw [Hq.a1 hk', eMs_self (Nat.le_refl _)]
    have hp := (O.note hk).2.1
    have a5 : alI .int q.1 (a + 5) (w (gP g k)) = some (g (8 + gP g k)) := by rw [Hq.a5 hp, eMs_ne (fun j _ => by omega)]
    have eh : gH (eMs g k) k = gH g k := by unfold gH; rw [eMs_ne (fun j _ => by omega)]
    have a3 : alI .char q.1 (a + 3) (w k) = some (wc (gH g k)) := by rw [Hq.a3 hk', eh]
    have hc := wc_0 (O.note hk).2.2.2.2.2.2.1
    have hx := (O.page hp).1
    have L : ∀ b, mv g k = b → cn (mv g) (k + 1) = cn (mv g) k + b.toNat := fun b hb => by subst hb; rfl
    have stay : mv g k = false → f_X1_drift_L4 (fu + 1) q.1 a q.2 (w k) = f_X1_drift_L4 fu q.1 a q.2 (w (k + 1)) → ∃ s' : PH × Int32, f_X1_drift_L4 (fu + 1) q.1 a q.2 (w k) = f_X1_drift_L4 fu s'.1 a s'.2 (w (k + 1)) ∧ Sg B s'.1 a (eMs g (k + 1)) ∧ s'.2 = w (cn (mv g) (k + 1)) ∧ fr (stW a) h s'.1 := fun hm E => by
      refine ⟨q, E, ?_, ?_, Fq⟩
      · have : eMs g (k + 1) = eMs g k := by
          show ePg (eMs g k) k (nP g k) = eMs g k
          rw [nP_no hm, ← eMs_self (g := g) (n := k) (k := k) (Nat.le_refl _)]
          exact ePg_id (eMs_ok O k (by omega)) hk'
        rw [this]; exact Hq
      · rw [L _ hm, Eq]; rfl
    by_cases c : gH g k = 0
    · have c1 : ¬ ¬ wc (gH g k) = (102 : Int32) := fun z => z (by rw [c]; rfl)
      by_cases d : g (8 + gP g k) = 0
      · refine stay (by unfold mv; simp [d]) ?_
        simp only [f_X1_drift_L4, i0, Option.bind_some, if_neg (is_lt hk (by omega)), Hq.r5, Hq.r1, a1, a5, Hq.r3, a3, if_neg c1, if_pos d, w_succ]
      · have hm : mv g k = true := by unfold mv; simp [c, d]
        obtain ⟨q1, eq1, Hq1, Fq1⟩ := page_put Hq hk' (nP_lt O hk)
        refine ⟨(q1, w (cn (mv g) (k + 1))), ?_, Hq1, rfl, Fq.trans Fq1⟩
        have en : zrem ((w (gP g k) + g (8 + gP g k)) + (12 : Int32)) (12 : Int32) = w (nP g k) := by
          rw [stp_w hp hx]; unfold nP; rw [if_pos c]
        show f_X1_drift_L4 (fu + 1) q.1 a q.2 (w k) = f_X1_drift_L4 fu q1 a (w (cn (mv g) (k + 1))) (w (k + 1))
        simp only [f_X1_drift_L4, i0, Option.bind_some, if_neg (is_lt hk (by omega)), Hq.r5, Hq.r1, a1, a5, Hq.r3, a3, if_neg c1, if_neg d, en, eq1, w_succ]
        rw [L _ hm, Eq, w_succ]; rfl
    · have c1 : ¬ wc (gH g k) = (102 : Int32) := fun z => by
        have : (wc (gH g k) == 102) = true := by rw [z]; rfl
        rw [hc] at this
        exact c (by simpa using this)
      refine stay (by unfold mv; simp [c]) ?_
      simp only [f_X1_drift_L4, i0, Option.bind_some, if_neg (is_lt hk (by omega)), Hq.r5, Hq.r1, a1, a5, Hq.r3, a3, w_succ]
      rw [if_pos c1]) (fun fu q hI => by
    show f_X1_drift_L4 (fu + 1) q.1 a q.2 (w (gN g)) = some (q.2, q.1)
    have i0 : rdI q.1 a 9 0 = some (w (gN g)) := by rw [hI.1.i0, e0]
    simp only [f_X1_drift_L4, i0, Option.bind_some, if_pos is_ge]) (k := 0) (s := (h, w 0)) (Nat.zero_le _) ⟨H, rfl, fr.refl _ _⟩
  have e1' : f_X1_drift_L4 FV h a (0 : Int32) (0 : Int32) = some (c1, h1) := e1
  refine ⟨h1, ?_, H1, F1⟩
  have E1 : c1 = w (cn (mv g) (gN g)) := E1
  unfold f_X1_drift
  rw [e1', E1]; rfl
end DAYS
