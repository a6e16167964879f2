/-! landing: the class -/
section LAND
variable {B : Nat} {g : GS} {h h1 : PH} {a l k p : Nat} {f x : Nat → Int32}
def JB (g : GS) : Prop := ∀ p, p < 12 → Bst g (gOn g p (gs g 1)) (gR g p) (gJ g p)
theorem JB.bit (J : JB g) (hp : p < 12) (hb : (gJ g p).testBit k = true) : k < gN g ∧ gH g k = 1 ∧ gP g k = p := by
  have h1 := sub_iff.mp (J p hp).1 k hb
  unfold gOn gs at h1
  rw [mk_bit, mk_bit] at h1
  simp at h1
  exact ⟨h1.1, h1.2.1.2, h1.2.2⟩
theorem gA_bit (J : JB g) (O : Ok B g) (hk : k < gN g) : (gA g).testBit k = (gJ g (gP g k)).testBit k := by
  have hp := (O.note hk).2.1
  unfold gA
  cases c : (gJ g (gP g k)).testBit k
  · cases d : (ors (gJ g) 12).testBit k
    · rfl
    · obtain ⟨p, h1, h2⟩ := (ors_bit _ _ _).mp d
      have := (J.bit h1 h2).2.2
      rw [this, h2] at c
      exact absurd c (by decide)
  · exact (ors_bit _ _ _).mpr ⟨_, hp, c⟩
theorem gA_held (J : JB g) (hb : (gA g).testBit k = true) : k < gN g ∧ gH g k = 1 := by
  obtain ⟨p, h1, h2⟩ := (ors_bit _ _ _).mp hb
  have := J.bit h1 h2
  exact ⟨this.1, this.2.1⟩
theorem gA_lt (J : JB g) : gA g < 2 ^ gN g := Nat.lt_pow_two_of_testBit _ fun j hj => by
  cases c : (gA g).testBit j
  · rfl
  · have := (gA_held J c).1
    omega
theorem cn_one {P Q : Nat → Bool} {n k : Nat} (hk : k < n) (h0 : P k = false) (h1 : Q k = true) (he : ∀ j, j < n → j ≠ k → Q j = P j) : cn Q n = cn P n + 1 := by
  induction n with
  | zero => omega
  | succ n ih =>
    show cn Q n + (Q n).toNat = cn P n + (P n).toNat + 1
    by_cases e : k = n
    · subst e
      rw [h0, h1, cn_ext (p := Q) (q := P) (fun j hj => he j (by omega) (by omega))]
      rfl
    · rw [ih (by omega) (fun j hj => he j (by omega)), he n (by omega) (by omega)]
      omega
/-- a held note ashore -/
def eW2 (g : GS) (k : Nat) : GS := upd (upd g (46 + 4 * k) (w 2)) 6 (g 6 + 1)
theorem Ok.w2_ok (O : Ok B g) (hk : k < gN g) (h1 : gH g k = 1) : Ok B (eW2 g k) := by
  have hn := O.n
  have same : ∀ i, i ≠ 46 + 4 * k → i ≠ 6 → eW2 g k i = g i := fun i hi h6 => by unfold eW2; rw [upd_ne h6, upd_ne hi]
  have n2 : eW2 g k (46 + 4 * k) = w 2 := by unfold eW2; rw [upd_ne (by omega), upd_eq]
  have q2 : gH (eW2 g k) k = 2 := (congrArg nv n2).trans (nv_w (by omega))
  refine O.keep (same 0 (by omega) (by omega)) (same 1 (by omega) (by omega)) (same 2 (by omega) (by omega)) (by rw [same 3 (by omega) (by omega)]; exact O.li) (fun i hi => ?_) (fun q hq => (O.page hq).same (same _ (by omega) (by omega)) (same _ (by omega) (by omega)) (same _ (by omega) (by omega))) (fun i hi => (O.net hi).same (fun z hz => same _ (by omega) (by omega))) ?_
  · by_cases e : i = k
    · subst e
      obtain ⟨q1, q2', q3, q4, q5, q6, q7, q8, q9, q10⟩ := O.note hk
      unfold okNote
      rw [q2]
      unfold gP gT gU gN
      rw [same (44 + 4 * i) (by omega) (by omega), same (45 + 4 * i) (by omega) (by omega), same (47 + 4 * i) (by omega) (by omega), same 0 (by omega) (by omega)]
      exact ⟨q1, q2', q3, q4, q5, n2, by omega, q8, q9, q10⟩
    · exact (O.note hi).same (by unfold gN; rw [same 0 (by omega) (by omega)]; exact Nat.le_refl _) (fun z hz => same _ (by omega) (by omega))
  · show upd _ 6 (g 6 + 1) 6 = _
    rw [upd_eq, O.g6, w_succ]
    congr 1
    refine (cn_one hk (by rw [h1]; rfl) (by rw [q2]; rfl) (fun j hj he => ?_)).symm
    unfold gH
    rw [same (46 + 4 * j) (by omega) (by omega)]
theorem w2_put (H : Sg B h a g) (hk : k < gN g) (h1 : gH g k = 1) : ∃ h', asI .char h (a + 3) (w k) (108 : Int32) = some h' ∧ Sg B h' a (eW2 g k) ∧ fr (stW a) h h' := by
  have hn := H.ok.n
  obtain ⟨O, s, S, R⟩ := H
  obtain ⟨x1, e1, S1, F1⟩ := S.s3 (x := 108) (Nat.lt_of_lt_of_le hk hn) (wc_fits 2) (wc_nar 2)
  refine ⟨x1, e1, ⟨O.w2_ok hk h1, _, S1, ?_⟩, F1⟩
  have same : ∀ i, i ≠ 46 + 4 * k → i ≠ 6 → eW2 g k i = g i := fun i hi h6 => by unfold eW2; rw [upd_ne h6, upd_ne hi]
  have n2 : eW2 g k (46 + 4 * k) = w 2 := by unfold eW2; rw [upd_ne (by omega), upd_eq]
  have q2 : gH (eW2 g k) k = 2 := (congrArg nv n2).trans (nv_w (by omega))
  have en : gN (eW2 g k) = gN g := by unfold gN; rw [same 0 (by omega) (by omega)]
  have em : gM (eW2 g k) = gM g := by unfold gM; rw [same 1 (by omega) (by omega)]
  obtain ⟨-, -, r3, r4, r5, r6, r7, r8, r9, r10⟩ := id R
  refine R.to en em rfl rfl (same 0 (by omega) (by omega)) (same 1 (by omega) (by omega)) (by rw [same 2 (by omega) (by omega)]; exact r3) (by rw [same 3 (by omega) (by omega)]; exact r4) (by rw [same 4 (by omega) (by omega)]; exact r5) (by rw [same 5 (by omega) (by omega)]; exact r6) (by rw [same 7 (by omega) (by omega)]; exact r7) (fun i hi => ?_) (fun q hq => ?_) (fun i hi => ?_)
  · obtain ⟨z1, z2, z3, z4⟩ := r8 i hi
    show s 1 i = _ ∧ s 2 i = _ ∧ upd (s 3) k 108 i = _ ∧ s 4 i = _
    rw [same (44 + 4 * i) (by omega) (by omega), same (45 + 4 * i) (by omega) (by omega), same (47 + 4 * i) (by omega) (by omega)]
    refine ⟨z1, z2, ?_, z4⟩
    by_cases e : i = k
    · subst e; rw [upd_eq, q2]; rfl
    · rw [upd_ne e, z3]; unfold gH; rw [same (46 + 4 * i) (by omega) (by omega)]
  · rw [same (8 + q) (by omega) (by omega), same (20 + q) (by omega) (by omega), same (32 + q) (by omega) (by omega)]
    exact r9 q hq
  · rw [same (84 + 3 * i) (by omega) (by omega), same (85 + 3 * i) (by omega) (by omega), same (86 + 3 * i) (by omega) (by omega)]
    exact r10 i hi
/-- the first n notes landed, or let go -/
noncomputable def eLa (g : GS) : Nat → GS
  | 0 => g
  | n + 1 => if (gA g).testBit n = true then eFu (eW2 (eLa g n) n) (gP g n) (gL (eLa g n) (gP g n) + gT g n) else if gH g n = 1 then eFree (eLa g n) n else eLa g n
theorem eLa_far {n i : Nat} (O : Ok B g) (hn : n ≤ gN g) (h : ∀ k, k < n → i ≠ 46 + 4 * k) (h6 : i ≠ 6) (h7 : i ≠ 7) (h32 : i < 32 ∨ 44 ≤ i) : eLa g n i = g i := by
  induction n with
  | zero => rfl
  | succ n ih =>
    have hp := (O.note (k := n) (by omega)).2.1
    have e := ih (by omega) (fun k hk => h k (by omega))
    have hk := h n (by omega)
    unfold eLa
    by_cases c : (gA g).testBit n = true
    · rw [if_pos c]
      unfold eFu eW2
      rw [upd_ne (by omega), upd_ne h6, upd_ne hk]
      exact e
    · rw [if_neg c]
      by_cases d : gH g n = 1
      · rw [if_pos d]
        unfold eFree
        rw [upd_ne h7, upd_ne hk]
        exact e
      · rw [if_neg d]; exact e
theorem eLa_L (J : JB g) (O : Ok B g) : ∀ n, n ≤ gN g → ∀ p, p < 12 → gL (eLa g n) p = gL g p + sw (gT g) n (gJ g p) ∧ gL g p + sw (gT g) n (gJ g p) ≤ 198 := by
  intro n
  induction n with
  | zero =>
    intro _ p hp
    exact ⟨rfl, (O.page hp).2.2.2.2⟩
  | succ n ih =>
    intro hn p hp
    have hpn := (O.note (k := n) (by omega)).2.1
    obtain ⟨i1, i2⟩ := ih (by omega) p hp
    have bound : gL g p + sw (gT g) (n + 1) (gJ g p) ≤ 198 := by
      have b1 := (O.page hp).2.2.2.2
      have b2 := (O.page hp).2.2.1
      have b3 : sw (gT g) (gN g) (gJ g p) ≤ gR g p := (J p hp).2.1
      have b4 : ∀ m, n + 1 ≤ m → sw (gT g) (n + 1) (gJ g p) ≤ sw (gT g) m (gJ g p) := by
        intro m
        induction m with
        | zero => omega
        | succ m ihm =>
          intro hm
          by_cases e : n = m
          · rw [e]; exact Nat.le_refl _
          · have := ihm (by omega)
            show _ ≤ sw (gT g) m (gJ g p) + _
            omega
      have b5 := b4 (gN g) hn
      unfold gR at b3
      split at b3 <;> omega
    refine ⟨?_, bound⟩
    have es : sw (gT g) (n + 1) (gJ g p) = sw (gT g) n (gJ g p) + (if (gJ g p).testBit n then gT g n else 0) := rfl
    rw [es] at bound ⊢
    unfold eLa
    by_cases c : (gA g).testBit n = true
    · rw [if_pos c]
      have hb : (gJ g (gP g n)).testBit n = true := by rw [← gA_bit J O (by omega)]; exact c
      by_cases e : p = gP g n
      · subst e
        rw [if_pos hb] at bound ⊢
        have : gL (eFu (eW2 (eLa g n) n) (gP g n) (gL (eLa g n) (gP g n) + gT g n)) (gP g n) = gL (eLa g n) (gP g n) + gT g n := (congrArg nv (upd_eq _ _ _)).trans (nv_w (by omega))
        rw [this, i1]; omega
      · have hb' : ¬ (gJ g p).testBit n = true := fun q => e (J.bit hp q).2.2.symm
        rw [if_neg hb']
        have : gL (eFu (eW2 (eLa g n) n) (gP g n) (gL (eLa g n) (gP g n) + gT g n)) p = gL (eLa g n) p := by
          unfold gL eFu eW2
          rw [upd_ne (by omega), upd_ne (by omega), upd_ne (by omega)]
        rw [this, i1]; omega
    · rw [if_neg c]
      have hb' : ¬ (gJ g p).testBit n = true := fun q => by
        have := (J.bit hp q).2.2
        rw [gA_bit J O (by omega), this] at c
        exact c q
      rw [if_neg hb']
      by_cases d : gH g n = 1
      · rw [if_pos d]
        have : gL (eFree (eLa g n) n) p = gL (eLa g n) p := by
          unfold gL eFree
          rw [upd_ne (by omega), upd_ne (by omega)]
        rw [this, i1]; omega
      · rw [if_neg d, i1]; omega
theorem eLa_self {n k : Nat} (O : Ok B g) (hn : n ≤ gN g) (h : n ≤ k) (hk : k < gN g) : gP (eLa g n) k = gP g k ∧ gT (eLa g n) k = gT g k ∧ gH (eLa g n) k = gH g k := by
  have := O.n
  unfold gP gT gH
  rw [eLa_far O hn (fun j hj => by omega) (by omega) (by omega) (by omega), eLa_far O hn (fun j hj => by omega) (by omega) (by omega) (by omega), eLa_far O hn (fun j hj => by omega) (by omega) (by omega) (by omega)]
  exact ⟨rfl, rfl, rfl⟩
theorem eLa_N {n : Nat} (O : Ok B g) (hn : n ≤ gN g) : gN (eLa g n) = gN g := by
  unfold gN
  rw [eLa_far O hn (fun j hj => by omega) (by omega) (by omega) (by omega)]
theorem eLa_ok (J : JB g) (O : Ok B g) : ∀ n, n ≤ gN g → Ok B (eLa g n) := by
  intro n
  induction n with
  | zero => intro _; exact O
  | succ n ih =>
    intro hn
    have I := ih (by omega)
    have e0 := eLa_N O (n := n) (by omega)
    obtain ⟨q1, q2, q3⟩ := eLa_self O (n := n) (k := n) (by omega) (Nat.le_refl _) (by omega)
    have hp := (O.note (k := n) (by omega)).2.1
    unfold eLa
    by_cases c : (gA g).testBit n = true
    · rw [if_pos c]
      have hh := (gA_held J c).2
      refine (I.w2_ok (by omega) (q3.trans hh)).fu_ok hp ?_
      obtain ⟨b1, b2⟩ := eLa_L J O (n + 1) hn _ hp
      have hb : (gJ g (gP g n)).testBit n = true := by rw [← gA_bit J O (by omega)]; exact c
      have es : sw (gT g) (n + 1) (gJ g (gP g n)) = sw (gT g) n (gJ g (gP g n)) + gT g n := by
        show sw (gT g) n (gJ g (gP g n)) + (if (gJ g (gP g n)).testBit n then gT g n else 0) = _
        rw [if_pos hb]
      have := (eLa_L J O n (by omega) _ hp).1
      omega
    · rw [if_neg c]
      by_cases d : gH g n = 1
      · rw [if_pos d]
        exact I.free_ok (by omega) (q3.trans d)
      · rw [if_neg d]; exact I
noncomputable def eLand (g : GS) : GS := upd (eLa g (gN g)) 4 (g 4 + (2 : Int32) * w (gW g (gA g)))
theorem gA_small (J : JB g) (O : Ok B g) : gA g < 1024 := small10 O.n (gA_lt J)
theorem landHold_ok (H : Sg B h a g) (J : JB g) : ∃ h', f_X1_landHold h a (w (gA g)) = some (w (gW g (gA g)), h') ∧ Sg B h' a (eLand g) ∧ fr (stW a) h h' := by
  have O := H.ok
  have hn := O.n
  have hA := gA_small J O
  obtain ⟨h1, e1, H1, F1⟩ := sloop0 (fun fu k (q : PH) => f_X1_landHold_L8 fu q a (w (gA g)) (w (gW g (gA g))) (w k)) id (gN g) (fun k q => Sg B q a (eLa g k) ∧ fr (stW a) h q) (by omega) (fun fu k q hk hI => by
    obtain ⟨Hq, Fq⟩ := hI
    have e0 := eLa_N O (n := k) (by omega)
    obtain ⟨q1, q2, q3⟩ := eLa_self O (n := k) (k := k) (by omega) (Nat.le_refl _) (by omega)
    have i0 : rdI q a 9 0 = some (w (gN g)) := by rw [Hq.i0, e0]
    have hk' : k < gN (eLa g k) := by omega
    have hp := (O.note hk).2.1
    have hh := (O.note hk).2.2.2.2.2.2.1
    have a3 : alI .char q (a + 3) (w k) = some (wc (gH g k)) := by rw [Hq.a3 hk', q3]
    have hb := has_w (show gA g < 2147483648 by omega) (show k < 31 by omega)
    by_cases c : (gA g).testBit k = true
    · obtain ⟨x1, f1, G1, E1⟩ := w2_put Hq hk' (q3.trans (gA_held J c).2)
      have O1 := eLa_ok J O (k + 1) (by omega)
      have bnd : gL (eLa g k) (gP g k) + gT g k ≤ 198 := by
        obtain ⟨b1, b2⟩ := eLa_L J O (k + 1) (by omega) _ hp
        have hbb : (gJ g (gP g k)).testBit k = true := by rw [← gA_bit J O hk]; exact c
        have es : sw (gT g) (k + 1) (gJ g (gP g k)) = sw (gT g) k (gJ g (gP g k)) + gT g k := by
          show sw (gT g) k (gJ g (gP g k)) + (if (gJ g (gP g k)).testBit k then gT g k else 0) = _
          rw [if_pos hbb]
        have := (eLa_L J O k (by omega) _ hp).1
        omega
      obtain ⟨x2, f2, G2, E2⟩ := fu_put G1 (p := gP g k) (x := gL (eLa g k) (gP g k) + gT g k) hp bnd
      have n1 : gN (eW2 (eLa g k) k) = gN (eLa g k) := by unfold gN eW2; rw [upd_ne (by omega), upd_ne (by omega)]
      have p1 : gP (eW2 (eLa g k) k) k = gP g k := by rw [← q1]; unfold gP eW2; rw [upd_ne (by omega), upd_ne (by omega)]
      have t1 : gT (eW2 (eLa g k) k) k = gT g k := by rw [← q2]; unfold gT eW2; rw [upd_ne (by omega), upd_ne (by omega)]
      have l1 : gL (eW2 (eLa g k) k) (gP g k) = gL (eLa g k) (gP g k) := by unfold gL eW2; rw [upd_ne (by omega), upd_ne (by omega)]
      have b1 : alI .int x1 (a + 1) (w k) = some (w (gP g k)) := by rw [G1.a1 (by omega), p1]
      have b2 : alI .int x1 (a + 2) (w k) = some (w (gT g k)) := by rw [G1.a2 (by omega), t1]
      have b7 : alI .int x1 (a + 7) (w (gP g k)) = some (w (gL (eLa g k) (gP g k))) := by rw [G1.a7 hp, l1]
      refine ⟨x2, ?_, ?_, (Fq.trans E1).trans E2⟩
      · have ch : ¬ (gA g).testBit k = false := by rw [c]; decide
        show f_X1_landHold_L8 (fu + 1) q a (w (gA g)) (w (gW g (gA g))) (w k) = f_X1_landHold_L8 fu x2 a (w (gA g)) (w (gW g (gA g))) (w (k + 1))
        simp only [f_X1_landHold_L8, i0, Option.bind_some, if_neg (is_lt hk (by omega)), hb, if_neg ch, Hq.r3, f1, G1.r7, G1.r1, G1.r2, b1, b2, b7, w_add, f2, w_succ]
      · show Sg B x2 a (eLa g (k + 1))
        have : eLa g (k + 1) = eFu (eW2 (eLa g k) k) (gP g k) (gL (eLa g k) (gP g k) + gT g k) := if_pos c
        rw [this]; exact G2
    · have c' : (gA g).testBit k = false := by simpa using c
      have e1 : eLa g (k + 1) = if gH g k = 1 then eFree (eLa g k) k else eLa g k := if_neg c
      by_cases d : gH g k = 1
      · obtain ⟨x1, f1, G1, E1⟩ := giveBack_ok Hq hk' (q3.trans d)
        have d1 : ¬ ¬ wc (gH g k) = (104 : Int32) := fun z => z (by rw [d]; rfl)
        refine ⟨x1, ?_, ?_, Fq.trans E1⟩
        · show f_X1_landHold_L8 (fu + 1) q a (w (gA g)) (w (gW g (gA g))) (w k) = f_X1_landHold_L8 fu x1 a (w (gA g)) (w (gW g (gA g))) (w (k + 1))
          simp only [f_X1_landHold_L8, i0, Option.bind_some, if_neg (is_lt hk (by omega)), hb, if_pos c', Hq.r3, a3, if_neg d1, f1, w_succ]
        · rw [if_pos d] at e1
          show Sg B x1 a (eLa g (k + 1))
          rw [e1]; exact G1
      · have d1 : ¬ wc (gH g k) = (104 : Int32) := fun z => by
          have q := wc_1 hh
          rw [z] at q
          exact d (by simpa using q.symm)
        refine ⟨q, ?_, ?_, Fq⟩
        · show f_X1_landHold_L8 (fu + 1) q a (w (gA g)) (w (gW g (gA g))) (w k) = f_X1_landHold_L8 fu q a (w (gA g)) (w (gW g (gA g))) (w (k + 1))
          simp only [f_X1_landHold_L8, i0, Option.bind_some, if_neg (is_lt hk (by omega)), hb, if_pos c', Hq.r3, a3, w_succ]
          rw [if_pos d1]
        · rw [if_neg d] at e1
          show Sg B q a (eLa g (k + 1))
          rw [e1]; exact Hq) (fun fu q hI => by
    have i0 : rdI q a 9 0 = some (w (gN g)) := by rw [hI.1.i0, eLa_N O (Nat.le_refl _)]
    show f_X1_landHold_L8 (fu + 1) q a (w (gA g)) (w (gW g (gA g))) (w (gN g)) = some q
    simp only [f_X1_landHold_L8, i0, Option.bind_some, if_pos is_ge]) (k := 0) (s := h) (Nat.zero_le _) ⟨H, fr.refl _ _⟩
  have e1' : f_X1_landHold_L8 FV h a (w (gA g)) (w (gW g (gA g))) (0 : Int32) = some h1 := e1
  have i14 : rdI h1 a 9 14 = some (g 4) := by rw [H1.i14, eLa_far O (Nat.le_refl _) (fun j hj => by omega) (by omega) (by omega) (by omega)]
  obtain ⟨h2, e2, H2, F2⟩ := coin_put H1 (g 4 + (2 : Int32) * w (gW g (gA g)))
  refine ⟨h2, ?_, H2, F1.trans F2⟩
  unfold f_X1_landHold
  simp only [H.gd, Option.bind_some, weightOfAll_ok H (show gA g < 2147483648 by omega), e1', i14, e2]
end LAND
