/-! hauling, cutting, days: the class -/
section CREW2
theorem sloop {σ γ : Type} (F : Nat → Nat → σ → Option γ) (out : σ → γ) (n : Nat) (Inv : Nat → σ → Prop) (hs : ∀ fu k s, k < n → Inv k s → ∃ s', F (fu + 1) k s = F fu (k + 1) s' ∧ Inv (k + 1) s') (he : ∀ fu s, Inv n s → F (fu + 1) n s = some (out s)) : ∀ fu k s, k ≤ n → n - k < fu → Inv k s → ∃ s', F fu k s = some (out s') ∧ Inv n s' := by
  intro fu
  induction fu with
  | zero => intro k s h1 h2; omega
  | succ fu ih =>
    intro k s h1 h2 hI
    by_cases e : k = n
    · subst e
      exact ⟨s, he fu s hI, hI⟩
    · obtain ⟨s', e1, I'⟩ := hs fu k s (by omega) hI
      obtain ⟨s'', e2, I''⟩ := ih (k + 1) s' (by omega) (by omega) I'
      exact ⟨s'', e1.trans e2, I''⟩
theorem sloop0 {σ γ : Type} (F : Nat → Nat → σ → Option γ) (out : σ → γ) (n : Nat) (Inv : Nat → σ → Prop) (hn : n < 4096) (hs : ∀ fu k s, k < n → Inv k s → ∃ s', F (fu + 1) k s = F fu (k + 1) s' ∧ Inv (k + 1) s') (he : ∀ fu s, Inv n s → F (fu + 1) n s = some (out s)) {k : Nat} {s : σ} (hk : k ≤ n) (hI : Inv k s) : ∃ s', F FV k s = some (out s') ∧ Inv n s' := sloop F out n Inv hs he FV k s hk (by rw [FV_eq]; omega) hI
variable {B : Nat} {g : GS} {h : PH} {a k p : Nat}
theorem Ok.le {B' : Nat} (O : Ok B g) (h : B ≤ B') (hb : B' < 1000000000) : Ok B' g := ⟨hb, O.g0, O.n, O.g1, O.m, O.g2, Nat.le_trans O.d h, O.li, fun k hk => O.note hk, fun p hp => O.page hp, fun k hk => O.net hk, O.g6⟩
theorem Sg.le {B' : Nat} (H : Sg B h a g) (h1 : B ≤ B') (hb : B' < 1000000000) : Sg B' h a g := ⟨H.1.le h1 hb, H.2⟩
/-- one note's place written -/
def eWh (g : GS) (k v : Nat) : GS := upd g (46 + 4 * k) (w v)
theorem Ok.wh_ok (O : Ok B g) {k v : Nat} (hk : k < gN g) (hv : v < 3) (h2 : v = 2 ↔ gH g k = 2) : Ok B (eWh g k v) := by
  have hn := O.n
  have same : ∀ i, i ≠ 46 + 4 * k → eWh g k v i = g i := fun i hi => upd_ne hi
  have n2 : eWh g k v (46 + 4 * k) = w v := upd_eq _ _ _
  have q2 : gH (eWh g k v) k = v := (congrArg nv n2).trans (nv_w (by omega))
  refine O.keep (same 0 (by omega)) (same 1 (by omega)) (same 2 (by omega)) (by rw [same 3 (by omega)]; exact O.li) (fun i hi => ?_) (fun q hq => (O.page hq).same (same _ (by omega)) (same _ (by omega)) (same _ (by omega))) (fun i hi => (O.net hi).same (fun z hz => same _ (by omega))) ?_
  · by_cases e : i = k
    · subst e
      obtain ⟨q1, q2', q3, q4, q5, q6, q7, q8, q9, q10⟩ := O.note hk
      unfold okNote
      rw [q2]
      unfold gP gT gU gN
      rw [same (44 + 4 * i) (by omega), same (45 + 4 * i) (by omega), same (47 + 4 * i) (by omega), same 0 (by omega)]
      exact ⟨q1, q2', q3, q4, q5, n2, hv, q8, q9, q10⟩
    · exact (O.note hi).same (by unfold gN; rw [same 0 (by omega)]; exact Nat.le_refl _) (fun z hz => same _ (by omega))
  · rw [same 6 (by omega), O.g6]
    congr 1
    refine cn_ext fun i hi => ?_
    by_cases e : i = k
    · subst e
      rw [q2]
      by_cases c : v = 2
      · rw [h2.mp c, c]
      · have c' : ¬ gH g i = 2 := fun q => c (h2.mpr q)
        have a1 : (gH g i == 2) = false := by simpa using c'
        have a2 : (v == 2) = false := by simpa using c
        show (gH g i == 2) = (v == 2)
        rw [a1, a2]
    · unfold gH; rw [same (46 + 4 * i) (by omega)]
theorem where_put (H : Sg B h a g) {k v : Nat} (hk : k < gN g) (hv : v < 3) (h2 : v = 2 ↔ gH g k = 2) {x : Int32} (hx : x = wc v) : ∃ h', asI .char h (a + 3) (w k) x = some h' ∧ Sg B h' a (eWh g k v) ∧ fr (stW a) h h' := by
  subst hx
  have hn := H.ok.n
  obtain ⟨O, s, S, R⟩ := H
  obtain ⟨x1, e1, S1, F1⟩ := S.s3 (x := wc v) (Nat.lt_of_lt_of_le hk hn) (wc_fits v) (wc_nar v)
  refine ⟨x1, e1, ⟨O.wh_ok hk hv h2, _, S1, ?_⟩, F1⟩
  obtain ⟨r1, r2, r3, r4, r5, r6, r7, r8, r9, r10⟩ := R
  have same : ∀ i, i ≠ 46 + 4 * k → eWh g k v i = g i := fun i hi => upd_ne hi
  have q2 : gH (eWh g k v) k = v := (congrArg nv (upd_eq _ _ _)).trans (nv_w (by omega))
  have en : gN (eWh g k v) = gN g := by unfold gN; rw [same 0 (by omega)]
  have em : gM (eWh g k v) = gM g := by unfold gM; rw [same 1 (by omega)]
  refine ⟨by rw [same 0 (by omega)]; exact r1, by rw [same 1 (by omega)]; exact r2, by rw [same 2 (by omega)]; exact r3, by rw [same 3 (by omega)]; exact r4, by rw [same 4 (by omega)]; exact r5, by rw [same 5 (by omega)]; exact r6, by rw [same 7 (by omega)]; exact r7, fun i hi => ?_, fun q hq => ?_, fun i hi => ?_⟩
  · rw [en] at hi
    obtain ⟨z1, z2, z3, z4⟩ := r8 i hi
    show s 1 i = _ ∧ s 2 i = _ ∧ upd (s 3) k (wc v) i = _ ∧ s 4 i = _
    rw [same (44 + 4 * i) (by omega), same (45 + 4 * i) (by omega), same (47 + 4 * i) (by omega)]
    refine ⟨z1, z2, ?_, z4⟩
    by_cases e : i = k
    · subst e; rw [upd_eq, q2]
    · rw [upd_ne e]; unfold gH; rw [same (46 + 4 * i) (by omega)]; exact z3
  · rw [same (8 + q) (by omega), same (20 + q) (by omega), same (32 + q) (by omega)]
    exact r9 q hq
  · rw [em] at hi
    rw [same (84 + 3 * i) (by omega), same (85 + 3 * i) (by omega), same (86 + 3 * i) (by omega)]
    exact r10 i hi
/-- the notes of a set put somewhere, the first n of them -/
def eWs (g : GS) (S v : Nat) : Nat → GS
  | 0 => g
  | n + 1 => if S.testBit n = true then eWh (eWs g S v n) n v else eWs g S v n
theorem eWs_ne {S v n i : Nat} (h : ∀ k, k < n → i ≠ 46 + 4 * k) : eWs g S v n i = g i := by
  induction n with
  | zero => rfl
  | succ n ih =>
    unfold eWs
    by_cases c : S.testBit n = true
    · rw [if_pos c]
      exact (upd_ne (h n (by omega))).trans (ih fun k hk => h k (by omega))
    · rw [if_neg c]
      exact ih fun k hk => h k (by omega)
theorem eWs_at {S v n k : Nat} (hv : v < 2147483648) : gH (eWs g S v n) k = if k < n ∧ S.testBit k = true then v else gH g k := by
  induction n with
  | zero => rw [if_neg (by omega)]; rfl
  | succ n ih =>
    unfold eWs
    by_cases c : S.testBit n = true
    · rw [if_pos c]
      by_cases e : k = n
      · subst e
        rw [if_pos ⟨by omega, c⟩]
        exact (congrArg nv (upd_eq _ _ _)).trans (nv_w hv)
      · have : gH (eWh (eWs g S v n) n v) k = gH (eWs g S v n) k := gH_ne (by omega)
        rw [this, ih]
        by_cases d : k < n ∧ S.testBit k = true
        · rw [if_pos d, if_pos ⟨by omega, d.2⟩]
        · rw [if_neg d, if_neg (fun q => d ⟨by omega, q.2⟩)]
    · rw [if_neg c, ih]
      by_cases e : k = n
      · subst e
        rw [if_neg (by omega), if_neg (fun q => c q.2)]
      · by_cases d : k < n ∧ S.testBit k = true
        · rw [if_pos d, if_pos ⟨by omega, d.2⟩]
        · rw [if_neg d, if_neg (fun q => d ⟨by omega, q.2⟩)]
def eCau (g : GS) (n : Nat) : GS := upd g 5 (g 5 + w n)
theorem Ok.cau_ok (O : Ok B g) (i : Nat) (hi : i = 4 ∨ i = 5 ∨ i = 7) (x : Int32) : Ok B (upd g i x) := by
  have same : ∀ j, j ≠ i → upd g i x j = g j := fun j hj => upd_ne hj
  refine O.keep (same 0 (by omega)) (same 1 (by omega)) (same 2 (by omega)) (by rw [same 3 (by omega)]; exact O.li) (fun j hj => (O.note hj).same (by unfold gN; rw [same 0 (by omega)]; exact Nat.le_refl _) (fun z hz => same _ (by omega))) (fun q hq => (O.page hq).same (same _ (by omega)) (same _ (by omega)) (same _ (by omega))) (fun j hj => (O.net hj).same (fun z hz => same _ (by omega))) ?_
  rw [same 6 (by omega), O.g6]
  congr 1
  exact cn_ext fun j hj => by unfold gH; rw [same (46 + 4 * j) (by omega)]
theorem cau_put (H : Sg B h a g) (x : Int32) : ∃ h', wr h a 9 15 (.int x) = some h' ∧ Sg B h' a (upd g 5 x) ∧ fr (stW a) h h' := by
  obtain ⟨O, s, S, R⟩ := H
  obtain ⟨x1, e1, S1, F1, -⟩ := S.w15 (x := x)
  refine ⟨x1, e1, ⟨O.cau_ok 5 (by decide) x, _, S1, ?_⟩, F1⟩
  obtain ⟨r1, r2, r3, r4, r5, r6, r7, r8, r9, r10⟩ := R
  have same : ∀ j, j ≠ 5 → upd g 5 x j = g j := fun j hj => upd_ne hj
  refine ⟨by rw [same 0 (by omega)]; exact r1, by rw [same 1 (by omega)]; exact r2, by rw [same 2 (by omega)]; exact r3, by rw [same 3 (by omega)]; exact r4, by rw [same 4 (by omega)]; exact r5, (upd_eq _ _ _).symm, by rw [same 7 (by omega)]; exact r7, fun i hi => ?_, fun q hq => ?_, fun i hi => ?_⟩
  · have en : gN (upd g 5 x) = gN g := by unfold gN; rw [same 0 (by omega)]
    rw [en] at hi
    unfold gH
    rw [same (44 + 4 * i) (by omega), same (45 + 4 * i) (by omega), same (46 + 4 * i) (by omega), same (47 + 4 * i) (by omega)]
    exact r8 i hi
  · rw [same (8 + q) (by omega), same (20 + q) (by omega), same (32 + q) (by omega)]
    exact r9 q hq
  · have em : gM (upd g 5 x) = gM g := by unfold gM; rw [same 1 (by omega)]
    rw [em] at hi
    rw [same (84 + 3 * i) (by omega), same (85 + 3 * i) (by omega), same (86 + 3 * i) (by omega)]
    exact r10 i hi
theorem gV_float {net : Nat} (hk : k < gN g) (h : (gV g net).testBit k = true) : gH g k = 0 := by
  unfold gV at h
  rw [mk_bit] at h
  simp at h
  exact h.2.1
theorem gZ_sub {net : Nat} (h : (gZ g net).testBit k = true) : (gV g net).testBit k = true := by
  have key : ∀ n, (itr (gZs g net) n (gZ0 g net)).testBit k = true → (gV g net).testBit k = true := by
    intro n
    induction n with
    | zero =>
      intro q
      have q : (gZ0 g net).testBit k = true := q
      unfold gZ0 at q
      rw [mk_bit] at q
      simp at q
      exact q.2.1
    | succ n ih =>
      intro q
      have q : (gZs g net (itr (gZs g net) n (gZ0 g net))).testBit k = true := q
      unfold gZs at q
      rw [Nat.testBit_or, Nat.testBit_and] at q
      simp at q
      rcases q with q | q
      · exact ih q
      · exact q.2
  exact key _ h
def eHaul (g : GS) (S : Nat) : GS := eCau (eWs g S 1 (gN g)) (pop S)
theorem haulNet_ok (H : Sg B h a g) {net : Nat} (hm : net < gM g) : ∃ h', f_X1_haulNet h a (w net) = some (w (pop (gZ g net)), h') ∧ Sg B h' a (eHaul g (gZ g net)) ∧ fr (stW a) h h' := by
  have hn := H.ok.n
  have hz := gZ_small H.ok net
  have e0 : ∀ n, n ≤ gN g → gN (eWs g (gZ g net) 1 n) = gN g := fun n _ => by unfold gN; rw [eWs_ne (fun k _ => by omega)]
  obtain ⟨h1, e1, H1, F1⟩ := sloop0 (fun fu k (q : PH) => f_X1_haulNet_L8 fu q a (w (gZ g net)) (w k)) id (gN g) (fun k q => Sg B q a (eWs g (gZ g net) 1 k) ∧ fr (stW a) h q) (by omega) (fun fu k q hk hI => by
    obtain ⟨Hq, Fq⟩ := hI
    have hk' : k < gN (eWs g (gZ g net) 1 k) := by rw [e0 k (by omega)]; exact hk
    have i0 : rdI q a 9 0 = some (w (gN g)) := by rw [Hq.i0, e0 k (by omega)]
    by_cases c : (gZ g net).testBit k = true
    · have f0 : gH (eWs g (gZ g net) 1 k) k = 0 := by
        rw [eWs_at (by omega), if_neg (by omega)]
        exact gV_float hk (gZ_sub c)
      obtain ⟨q1, eq1, Hq1, Fq1⟩ := where_put Hq hk' (v := 1) (by decide) (by omega) (x := 104) rfl
      refine ⟨q1, ?_, ?_, Fq.trans Fq1⟩
      · show f_X1_haulNet_L8 (fu + 1) q a (w (gZ g net)) (w k) = f_X1_haulNet_L8 fu q1 a (w (gZ g net)) (w (k + 1))
        simp only [f_X1_haulNet_L8, i0, Option.bind_some, if_neg (is_lt hk (by omega)), has_w (show gZ g net < 2147483648 by omega) (show k < 31 by omega), c, Hq.r3, eq1, w_succ]
        rfl
      · show Sg B q1 a (if (gZ g net).testBit k = true then _ else _)
        rw [if_pos c]; exact Hq1
    · refine ⟨q, ?_, ?_, Fq⟩
      · show f_X1_haulNet_L8 (fu + 1) q a (w (gZ g net)) (w k) = f_X1_haulNet_L8 fu q a (w (gZ g net)) (w (k + 1))
        simp only [f_X1_haulNet_L8, i0, Option.bind_some, if_neg (is_lt hk (by omega)), has_w (show gZ g net < 2147483648 by omega) (show k < 31 by omega), w_succ]
        rw [if_pos (by simpa using c)]
      · show Sg B q a (if (gZ g net).testBit k = true then _ else _)
        rw [if_neg c]; exact Hq) (fun fu q hI => by
    show f_X1_haulNet_L8 (fu + 1) q a (w (gZ g net)) (w (gN g)) = some q
    have i0 : rdI q a 9 0 = some (w (gN g)) := by rw [hI.1.i0, e0 _ (Nat.le_refl _)]
    simp only [f_X1_haulNet_L8, i0, Option.bind_some, if_pos is_ge]) (k := 0) (s := h) (Nat.zero_le _) ⟨H, fr.refl _ _⟩
  have i15 := H1.i15
  obtain ⟨h2, e2, H2, F2⟩ := cau_put H1 (eWs g (gZ g net) 1 (gN g) 5 + w (pop (gZ g net)))
  refine ⟨h2, ?_, H2, F1.trans F2⟩
  have e1' : f_X1_haulNet_L8 FV h a (w (gZ g net)) (0 : Int32) = some h1 := e1
  unfold f_X1_haulNet
  simp only [H.gd, Option.bind_some, catchOf_ok H hm, e1', i15, bitCount_w _ hz, e2]
def eCut (g : GS) (k : Nat) : GS := fun i => if i = 1 then w (gM g - 1) else if 84 + 3 * k ≤ i ∧ i < 84 + 3 * (gM g - 1) then g (i + 3) else if 84 + 3 * (gM g - 1) ≤ i ∧ i < 84 + 3 * gM g then 0 else g i
theorem Ok.cut_ok (O : Ok B g) {k : Nat} (hk : k < gM g) : Ok B (eCut g k) ∧ gM (eCut g k) = gM g - 1 := by
  have hm := O.m
  have hN := O.n
  have e1 : eCut g k 1 = w (gM g - 1) := if_pos rfl
  have em : gM (eCut g k) = gM g - 1 := gM_of e1 (by omega)
  have same : ∀ i, i ≠ 1 → i < 84 + 3 * k → eCut g k i = g i := fun i h1 h2 => by
    unfold eCut
    rw [if_neg h1, if_neg (by omega), if_neg (by omega)]
  have e0 : gN (eCut g k) = gN g := by unfold gN; rw [same 0 (by omega) (by omega)]
  have e2 : gD (eCut g k) = gD g := by unfold gD; rw [same 2 (by omega) (by omega)]
  refine ⟨⟨O.hb, ?_, ?_, ?_, ?_, ?_, ?_, ?_, fun i hi => ?_, fun q hq => ?_, fun i hi => ?_, ?_⟩, em⟩
  · rw [e0, same 0 (by omega) (by omega)]; exact O.g0
  · rw [e0]; exact O.n
  · rw [em]; exact e1
  · rw [em]; omega
  · rw [e2, same 2 (by omega) (by omega)]; exact O.g2
  · rw [e2]; exact O.d
  · rw [same 3 (by omega) (by omega)]; exact O.li
  · rw [e0] at hi
    exact (O.note hi).same (by omega) (fun z hz => same _ (by omega) (by omega))
  · exact (O.page hq).same (same _ (by omega) (by omega)) (same _ (by omega) (by omega)) (same _ (by omega) (by omega))
  · rw [em] at hi
    by_cases c : i < k
    · exact (O.net (show i < gM g by omega)).same (fun z hz => same _ (by omega) (by omega))
    · have sh : ∀ z, z < 3 → eCut g k (84 + 3 * i + z) = g (84 + 3 * (i + 1) + z) := fun z hz => by
        unfold eCut
        rw [if_neg (by omega), if_pos (by omega)]
        congr 1
        omega
      have := O.net (show i + 1 < gM g by omega)
      have s0 := sh 0 (by decide); have s1 := sh 1 (by decide); have s2 := sh 2 (by decide)
      rw [show 84 + 3 * i + 0 = 84 + 3 * i by omega, show 84 + 3 * (i + 1) + 0 = 84 + 3 * (i + 1) by omega] at s0
      rw [show 84 + 3 * i + 1 = 85 + 3 * i by omega, show 84 + 3 * (i + 1) + 1 = 85 + 3 * (i + 1) by omega] at s1
      rw [show 84 + 3 * i + 2 = 86 + 3 * i by omega, show 84 + 3 * (i + 1) + 2 = 86 + 3 * (i + 1) by omega] at s2
      unfold okNet gF gE gK at *
      rw [s0, s1, s2]
      exact this
  · rw [e0, same 6 (by omega) (by omega), O.g6]
    congr 1
    exact cn_ext fun i hi => by unfold gH; rw [same (46 + 4 * i) (by omega) (by omega)]
theorem cutNet_ok (H : Sg B h a g) {k : Nat} (hk : k < gM g) : ∃ h', f_X1_cutNet h a (w k) = some (w (gM g - 1), h') ∧ Sg B h' a (eCut g k) ∧ fr (stW a) h h' := by
  have i8 := H.i8
  have hm := H.ok.m
  have hN := H.ok.n
  obtain ⟨O, s, S, R⟩ := H
  obtain ⟨O', em⟩ := O.cut_ok hk
  have eM : w (gM g) - (1 : Int32) = w (gM g - 1) := w_sub (b := 1) (by omega)
  obtain ⟨h1, e1, ⟨-, s1, S1, K1, rest1⟩, F1⟩ := sloop0 (fun fu j (q : PH) => f_X1_cutNet_L9 fu q a (w (gM g - 1)) (w j)) id (gM g - 1) (fun j q => (k ≤ j ∧ ∃ s1 : CS, StC q a s1 ∧ (∀ i, i < 5 → s1 9 i = (if k ≤ i ∧ i < j then s 9 (i + 1) else s 9 i) ∧ s1 10 i = (if k ≤ i ∧ i < j then s 10 (i + 1) else s 10 i) ∧ s1 11 i = (if k ≤ i ∧ i < j then s 11 (i + 1) else s 11 i)) ∧ ∀ r, r ≠ 9 → r ≠ 10 → r ≠ 11 → s1 r = s r) ∧ fr (stW a) h q) (by omega) (fun fu j q hj hI => by
    obtain ⟨⟨hkj, s1, S1, K1, rest1⟩, F1⟩ := hI
    obtain ⟨y1, f1, T1, G1⟩ := S1.s9 (k := j) (x := s1 9 (j + 1)) (by omega)
    obtain ⟨y2, f2, T2, G2⟩ := T1.s10 (k := j) (x := s1 10 (j + 1)) (by omega)
    obtain ⟨y3, f3, T3, G3⟩ := T2.s11 (k := j) (x := s1 11 (j + 1)) (by omega)
    have b1 := S1.a9 (k := j + 1) (by omega)
    have b2 : alI .int y1 (a + 9) (w (j + 1)) = some (s1 10 (j + 1)) := T1.a10 (k := j + 1) (by omega)
    have b3 : alI .int y2 (a + 10) (w (j + 1)) = some (s1 11 (j + 1)) := T2.a11 (k := j + 1) (by omega)
    refine ⟨y3, ?_, ⟨by omega, _, T3, fun i hi => ?_, fun r q9 q10 q11 => ?_⟩, ((F1.trans G1).trans G2).trans G3⟩
    · show f_X1_cutNet_L9 (fu + 1) q a (w (gM g - 1)) (w j) = f_X1_cutNet_L9 fu y3 a (w (gM g - 1)) (w (j + 1))
      simp only [f_X1_cutNet_L9, if_neg (is_lt hj (by omega)), S1.r9, w_succ, b1, f1, T1.r10, b2, f2, T2.r11, b3, f3, Option.bind_some]
    · obtain ⟨z1, z2, z3⟩ := K1 i hi
      obtain ⟨y1', y2', y3'⟩ := K1 (j + 1) (by omega)
      rw [if_neg (by omega)] at y1' y2' y3'
      show upd (s1 9) j (s1 9 (j + 1)) i = _ ∧ upd (s1 10) j (s1 10 (j + 1)) i = _ ∧ upd (s1 11) j (s1 11 (j + 1)) i = _
      by_cases e : i = j
      · subst e
        rw [upd_eq, upd_eq, upd_eq, if_pos ⟨hkj, by omega⟩, if_pos ⟨hkj, by omega⟩, if_pos ⟨hkj, by omega⟩]
        exact ⟨y1', y2', y3'⟩
      · rw [upd_ne e, upd_ne e, upd_ne e, z1, z2, z3]
        by_cases c : k ≤ i ∧ i < j
        · rw [if_pos c, if_pos c, if_pos c, if_pos ⟨c.1, by omega⟩, if_pos ⟨c.1, by omega⟩, if_pos ⟨c.1, by omega⟩]
          exact ⟨rfl, rfl, rfl⟩
        · rw [if_neg c, if_neg c, if_neg c, if_neg (by omega), if_neg (by omega), if_neg (by omega)]
          exact ⟨rfl, rfl, rfl⟩
    · show setR (setR (setR s1 9 _) 10 _) 11 _ r = s r
      unfold setR
      rw [if_neg q11, if_neg q10, if_neg q9]
      exact rest1 r q9 q10 q11) (fun fu q hI => by
    show f_X1_cutNet_L9 (fu + 1) q a (w (gM g - 1)) (w (gM g - 1)) = some q
    simp only [f_X1_cutNet_L9, if_pos is_ge]) (k := k) (s := h) (by omega) ⟨⟨Nat.le_refl _, s, S, fun i hi => by rw [if_neg (by omega), if_neg (by omega), if_neg (by omega)]; exact ⟨rfl, rfl, rfl⟩, fun _ _ _ _ => rfl⟩, fr.refl _ _⟩
  have e1' : f_X1_cutNet_L9 FV h a (w (gM g - 1)) (w k) = some h1 := e1
  obtain ⟨h2, e2, S2, F2, -⟩ := S1.w8 (x := w (gM g - 1))
  refine ⟨h2, by unfold f_X1_cutNet; simp only [i8, Option.bind_some, eM, e1', e2], ⟨O', _, S2, ?_⟩, F1.trans F2⟩
  obtain ⟨r1, r2, r3, r4, r5, r6, r7, r8, r9, r10⟩ := R
  have same : ∀ i, i ≠ 1 → i < 84 + 3 * k → eCut g k i = g i := fun i h1 h2 => by
    unfold eCut
    rw [if_neg h1, if_neg (by omega), if_neg (by omega)]
  have old : ∀ r, r ≠ 8 → r ≠ 9 → r ≠ 10 → r ≠ 11 → setR s1 8 (fun _ => w (gM g - 1)) r = s r := fun r q8 q9 q10 q11 => by
    unfold setR
    rw [if_neg q8]
    exact rest1 r q9 q10 q11
  refine ⟨?_, (if_pos rfl).symm, ?_, ?_, ?_, ?_, ?_, fun i hi => ?_, fun q hq => ?_, fun i hi => ?_⟩
  · rw [old 0 (by decide) (by decide) (by decide) (by decide), same 0 (by omega) (by omega)]; exact r1
  · rw [old 13 (by decide) (by decide) (by decide) (by decide), same 2 (by omega) (by omega)]; exact r3
  · rw [old 12 (by decide) (by decide) (by decide) (by decide), same 3 (by omega) (by omega)]; exact r4
  · rw [old 14 (by decide) (by decide) (by decide) (by decide), same 4 (by omega) (by omega)]; exact r5
  · rw [old 15 (by decide) (by decide) (by decide) (by decide), same 5 (by omega) (by omega)]; exact r6
  · rw [old 16 (by decide) (by decide) (by decide) (by decide), same 7 (by omega) (by omega)]; exact r7
  · have en : gN (eCut g k) = gN g := by unfold gN; rw [same 0 (by omega) (by omega)]
    rw [en] at hi
    rw [old 1 (by decide) (by decide) (by decide) (by decide), old 2 (by decide) (by decide) (by decide) (by decide), old 3 (by decide) (by decide) (by decide) (by decide), old 4 (by decide) (by decide) (by decide) (by decide)]
    unfold gH
    rw [same (44 + 4 * i) (by omega) (by omega), same (45 + 4 * i) (by omega) (by omega), same (46 + 4 * i) (by omega) (by omega), same (47 + 4 * i) (by omega) (by omega)]
    exact r8 i hi
  · rw [old 5 (by decide) (by decide) (by decide) (by decide), old 6 (by decide) (by decide) (by decide) (by decide), old 7 (by decide) (by decide) (by decide) (by decide), same (8 + q) (by omega) (by omega), same (20 + q) (by omega) (by omega), same (32 + q) (by omega) (by omega)]
    exact r9 q hq
  · rw [em] at hi
    obtain ⟨z1, z2, z3⟩ := K1 i (by omega)
    show s1 9 i = _ ∧ s1 10 i = _ ∧ s1 11 i = _
    rw [z1, z2, z3]
    by_cases c : i < k
    · rw [if_neg (by omega), if_neg (by omega), if_neg (by omega), same (84 + 3 * i) (by omega) (by omega), same (85 + 3 * i) (by omega) (by omega), same (86 + 3 * i) (by omega) (by omega)]
      exact r10 i (by omega)
    · rw [if_pos ⟨by omega, by omega⟩, if_pos ⟨by omega, by omega⟩, if_pos ⟨by omega, by omega⟩]
      have sh : ∀ z, z < 3 → eCut g k (84 + z + 3 * i) = g (84 + z + 3 * (i + 1)) := fun z hz => by
        unfold eCut
        rw [if_neg (by omega), if_pos (by omega)]
        congr 1
      rw [show 84 + 3 * i = 84 + 0 + 3 * i by omega, show 85 + 3 * i = 84 + 1 + 3 * i by omega, show 86 + 3 * i = 84 + 2 + 3 * i by omega, sh 0 (by decide), sh 1 (by decide), sh 2 (by decide)]
      exact r10 (i + 1) (by omega)
end CREW2
