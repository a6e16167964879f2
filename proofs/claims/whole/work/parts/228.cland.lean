/-! which held notes are landed: the class -/
section CLAND
variable {B : Nat} {g : GS} {h h1 : PH} {a l k p : Nat} {f x : Nat → Int32}
def LaC (h : PH) (l : Nat) (f x : Nat → Int32) : Prop := kK ≤ l ∧ l + 2 < h.1 ∧ h.2 l = .inr (8, [.ref (l + 1), .ref (l + 2)]) ∧ h.2 (l + 1) = .inl (.int, 199, .inl f) ∧ h.2 (l + 2) = .inl (.int, 12, .inl x)
def laW (l : Nat) : Nat → Prop := fun c => l ≤ c ∧ c ≤ l + 2
theorem LaC.gd (L : LaC h l f x) : gd h l 8 = some () := gd_of L.2.2.1
theorem LaC.r0 (L : LaC h l f x) : rdR h l 8 0 = some (l + 1) := rdR_of L.2.2.1 rfl
theorem LaC.r1 (L : LaC h l f x) : rdR h l 8 1 = some (l + 2) := rdR_of L.2.2.1 rfl
theorem LaC.a0 (L : LaC h l f x) (hk : k < 199) : alI .int h (l + 1) (w k) = some (f k) := alI_of L.2.2.2.1 (by decide) hk
theorem LaC.a1 (L : LaC h l f x) (hk : k < 12) : alI .int h (l + 2) (w k) = some (x k) := alI_of L.2.2.2.2 (by decide) hk
theorem LaC.l0 (L : LaC h l f x) : alA .int h (l + 1) = some (w 199) := alA_of L.2.2.2.1
theorem LaC.frm {W : Nat → Prop} (L : LaC h l f x) (F : fr W h h1) (hw : ∀ i, i ≤ 2 → ¬ W (l + i)) : LaC h1 l f x := by
  obtain ⟨q1, q2, q3, q4, q5⟩ := L
  have := F.1
  exact ⟨q1, by omega, (F.2 l (by omega) (hw 0 (by decide))).trans q3, (F.2 (l + 1) (by omega) (hw 1 (by decide))).trans q4, (F.2 (l + 2) (by omega) (hw 2 (by decide))).trans q5⟩
theorem LaC.s0 (L : LaC h l f x) {v : Int32} (hk : k < 199) : ∃ h1, asI .int h (l + 1) (w k) v = some h1 ∧ LaC h1 l (upd f k v) x ∧ fr (laW l) h h1 := by
  obtain ⟨q1, q2, q3, q4, q5⟩ := L
  exact ⟨_, asI_of (by omega) q4 (by decide) hk, ⟨q1, q2, (z_up_n _ _ (by omega)).trans q3, z_up_s _ _ _, (z_up_n _ _ (by omega)).trans q5⟩, fr.up ⟨by omega, by omega⟩⟩
theorem LaC.s1 (L : LaC h l f x) {v : Int32} (hk : k < 12) : ∃ h1, asI .int h (l + 2) (w k) v = some h1 ∧ LaC h1 l f (upd x k v) ∧ fr (laW l) h h1 := by
  obtain ⟨q1, q2, q3, q4, q5⟩ := L
  exact ⟨_, asI_of (by omega) q5 (by decide) hk, ⟨q1, q2, (z_up_n _ _ (by omega)).trans q3, (z_up_n _ _ (by omega)).trans q4, z_up_s _ _ _⟩, fr.up ⟨by omega, by omega⟩⟩
theorem lt_199 {n k : Nat} (hk : k < n) (hn : n ≤ 1000) : ¬ w n ≤ w k := by
  rw [w_le (by omega) (by omega)]
  omega
theorem lafill (L : LaC h l f x) (v : Int32) : ∃ h1 f1, f_J7_fill_53178 h (l + 1) v = some h1 ∧ LaC h1 l f1 x ∧ (∀ i, i < 199 → f1 i = v) ∧ fr (laW l) h h1 := by
  obtain ⟨h1, e1, ⟨f1, L1, K1⟩, F1⟩ := sloop0 (fun fu k (q : PH) => f_J7_fill_53178_L5 fu q (l + 1) v (w k) (w 199)) id 199 (fun k q => (∃ f1, LaC q l f1 x ∧ ∀ i, i < k → f1 i = v) ∧ fr (laW l) h q) (by decide) (fun fu k q hk hI => by
    obtain ⟨⟨f1, L1, K1⟩, F1⟩ := hI
    obtain ⟨q1, e1, L2, F2⟩ := L1.s0 (v := v) hk
    refine ⟨q1, ?_, ⟨_, L2, fun i hi => ?_⟩, F1.trans F2⟩
    · show f_J7_fill_53178_L5 (fu + 1) q (l + 1) v (w k) (w 199) = f_J7_fill_53178_L5 fu q1 (l + 1) v (w (k + 1)) (w 199)
      simp only [f_J7_fill_53178_L5, if_neg (lt_199 hk (by decide)), e1, Option.bind_some, w_succ]
    · by_cases c : i = k
      · rw [c, upd_eq]
      · rw [upd_ne c]; exact K1 i (by omega)) (fun fu q hI => by
    show f_J7_fill_53178_L5 (fu + 1) q (l + 1) v (w 199) (w 199) = some q
    simp only [f_J7_fill_53178_L5, if_pos is_ge]) (k := 0) (s := h) (Nat.zero_le _) ⟨⟨f, L, fun i hi => by omega⟩, fr.refl _ _⟩
  have e1' : f_J7_fill_53178_L5 FV h (l + 1) v (0 : Int32) (w 199) = some h1 := e1
  refine ⟨h1, f1, ?_, L1, K1, F1⟩
  unfold f_J7_fill_53178
  rw [L.l0, Option.bind_some, e1']
  rfl
theorem w_pred {n : Nat} (h : 1 ≤ n) : w n + (-1 : Int32) = w (n - 1) := by
  have e : w n - (1 : Int32) = w (n - 1) := w_sub (b := 1) h
  rw [← e, Int32.sub_eq_add_neg]
/-- one sum behind a note of weight t that shows as P -/
noncomputable def nxt (t P : Nat) (f : Nat → Int32) (s : Nat) : Int32 := if f (s - t) < 0 then f s else f_J9_max_7cf53 (f s) (f (s - t) ||| w P)
noncomputable def tw (t P n : Nat) (f : Nat → Int32) : Nat → Int32 := fun s => if t ≤ s ∧ s ≤ n then nxt t P f s else f s
theorem tw_step {t P n : Nat} (ht : 1 ≤ t) (hn : t ≤ n) : tw t P (n - 1) (upd f n (nxt t P f n)) = tw t P n f := by
  funext s
  unfold tw
  by_cases c : t ≤ s ∧ s ≤ n - 1
  · rw [if_pos c, if_pos ⟨c.1, by omega⟩]
    unfold nxt
    rw [upd_ne (show s - t ≠ n by omega), upd_ne (show s ≠ n by omega)]
  · rw [if_neg c]
    by_cases e : s = n
    · subst e; rw [upd_eq, if_pos ⟨hn, Nat.le_refl _⟩]
    · rw [upd_ne e, if_neg (by omega)]
theorem tw_none {t P n : Nat} (hn : n < t) : tw t P n f = f := by
  funext s
  unfold tw
  rw [if_neg (by omega)]
theorem try_loop {t P : Nat} (ht : 1 ≤ t) (ht2 : t ≤ 30) : ∀ fu n (h : PH) (f : Nat → Int32), n < fu → n < 199 → LaC h l f x → ∃ h1, f_X6_tryWith_L3 fu h l (w t) (w P) (w n) = some h1 ∧ LaC h1 l (tw t P n f) x ∧ fr (laW l) h h1 := by
  intro fu
  induction fu with
  | zero => intro n h f h0; omega
  | succ fu ih =>
    intro n h f h0 h1 L
    by_cases c : n < t
    · refine ⟨h, ?_, by rw [tw_none c]; exact L, fr.refl _ _⟩
      simp only [f_X6_tryWith_L3, if_pos ((w_lt (a := n) (b := t) (by omega) (by omega)).mpr c)]
    · have c1 : ¬ w n < w t := fun q => c ((w_lt (a := n) (b := t) (by omega) (by omega)).mp q)
      have e1 := L.a0 (k := n - t) (by omega)
      simp only [f_X6_tryWith_L3, if_neg c1, L.r0, Option.bind_some, w_sub (show t ≤ n by omega), e1, w_pred (show 1 ≤ n by omega)]
      by_cases d : f (n - t) < 0
      · rw [if_pos d]
        obtain ⟨q, eq, Lq, Fq⟩ := ih (n - 1) h f (by omega) (by omega) L
        refine ⟨q, eq, ?_, Fq⟩
        have : upd f n (nxt t P f n) = f := by
          funext i
          unfold upd
          by_cases z : i = n
          · rw [if_pos z, z]; unfold nxt; rw [if_pos d]
          · rw [if_neg z]
        rw [← tw_step ht (by omega), this]
        exact Lq
      · rw [if_neg d]
        obtain ⟨q1, eq1, L1, F1⟩ := L.s0 (k := n) (v := f_J9_max_7cf53 (f n) (f (n - t) ||| w P)) h1
        obtain ⟨q, eq, Lq, Fq⟩ := ih (n - 1) q1 _ (by omega) (by omega) L1
        refine ⟨q, ?_, ?_, F1.trans Fq⟩
        · simp only [L.a0 h1, Option.bind_some, eq1, eq]
        · have : f_J9_max_7cf53 (f n) (f (n - t) ||| w P) = nxt t P f n := by unfold nxt; rw [if_neg d]
          rw [this, tw_step ht (by omega)] at Lq
          exact Lq
/-- what a sum shows behind the first k notes -/
def Dv (g : GS) (C k s : Nat) (v : Int32) : Prop := (v = -1 ∧ ∀ T, T &&& C = T → T < 2 ^ k → gW g T = s → False) ∨ (∃ T, T &&& C = T ∧ T < 2 ^ k ∧ gW g T = s ∧ v = w (rv T) ∧ ∀ T', T' &&& C = T' → T' < 2 ^ k → gW g T' = s → rv T' ≤ rv T)
theorem top_split {T k : Nat} (h : T < 2 ^ (k + 1)) (hb : T.testBit k = true) : T = (T % 2 ^ k) ||| 2 ^ k ∧ T % 2 ^ k < 2 ^ k := by
  refine ⟨Nat.eq_of_testBit_eq fun j => ?_, Nat.mod_lt _ (Nat.two_pow_pos _)⟩
  rw [Nat.testBit_or, Nat.testBit_mod_two_pow, Nat.testBit_two_pow]
  by_cases e : k = j
  · subst e; rw [hb]; simp
  · by_cases d : j < k
    · simp [d, e]
    · have : T.testBit j = false := Nat.testBit_lt_two_pow (Nat.lt_of_lt_of_le h (Nat.pow_le_pow_right (by decide) (by omega)))
      rw [this]; simp [d, e]
theorem top_no {T k : Nat} (h : T < 2 ^ (k + 1)) (hb : T.testBit k = false) : T < 2 ^ k := by
  have e : T % 2 ^ k = T := by
    refine Nat.eq_of_testBit_eq fun j => ?_
    rw [Nat.testBit_mod_two_pow]
    by_cases d : j < k
    · simp [d]
    · have : T.testBit j = false := by
        by_cases e : j = k
        · rw [e]; exact hb
        · exact Nat.testBit_lt_two_pow (Nat.lt_of_lt_of_le h (Nat.pow_le_pow_right (by decide) (by omega)))
      rw [this]; simp [d]
  rw [← e]
  exact Nat.mod_lt _ (Nat.two_pow_pos _)
theorem low_no {T k j : Nat} (h : T < 2 ^ k) (hj : k ≤ j) : T.testBit j = false := Nat.testBit_lt_two_pow (Nat.lt_of_lt_of_le h (Nat.pow_le_pow_right (by decide) hj))
theorem or_lt {T k : Nat} (h : T < 2 ^ k) : T ||| 2 ^ k < 2 ^ (k + 1) := Nat.or_lt_two_pow (Nat.lt_of_lt_of_le h (Nat.pow_le_pow_right (by decide) (by omega))) (Nat.pow_lt_pow_right (by decide) (by omega))
theorem gW_top {T k : Nat} (hk : k < gN g) (h : T < 2 ^ k) : gW g (T ||| 2 ^ k) = gW g T + gT g k := by
  rw [gW_sw, sw_or, sw_one _ _ _ hk, gW_sw]
  intro j _ q
  have e : k = j := by
    have := q.2
    rw [Nat.testBit_two_pow] at this
    simpa using this
  rw [← e, low_no h (Nat.le_refl _)] at q
  exact absurd q.1 (by decide)
theorem rv_top {T k : Nat} (hk : k < 10) (h : T < 2 ^ k) : rv (T ||| 2 ^ k) = rv T + 2 ^ (9 - k) := by
  unfold rv
  rw [sw_or, sw_one _ _ _ hk]
  intro j _ q
  have e : k = j := by
    have := q.2
    rw [Nat.testBit_two_pow] at this
    simpa using this
  rw [← e, low_no h (Nat.le_refl _)] at q
  exact absurd q.1 (by decide)
theorem sub_or {T C k : Nat} (h : T &&& C = T) (hk : C.testBit k = true) : (T ||| 2 ^ k) &&& C = T ||| 2 ^ k := by
  rw [sub_iff] at *
  intro j hj
  rw [Nat.testBit_or, Bool.or_eq_true] at hj
  rcases hj with hj | hj
  · exact h j hj
  · rw [Nat.testBit_two_pow] at hj
    have : k = j := by simpa using hj
    rw [← this]; exact hk
theorem sub_low {T C k : Nat} (h : T &&& C = T) : (T % 2 ^ k) &&& C = T % 2 ^ k := by
  rw [sub_iff] at *
  intro j hj
  rw [Nat.testBit_mod_two_pow, Bool.and_eq_true] at hj
  exact h j hj.2
theorem Dv.skip {C s : Nat} {v : Int32} (hb : C.testBit k = false) (D : Dv g C k s v) : Dv g C (k + 1) s v := by
  have key : ∀ T, T &&& C = T → T < 2 ^ (k + 1) → T < 2 ^ k := fun T h1 h2 => top_no h2 (by
    cases c : T.testBit k
    · rfl
    · rw [sub_iff.mp h1 k c] at hb; exact hb)
  rcases D with ⟨e, D⟩ | ⟨T, h1, h2, h3, h4, h5⟩
  · exact Or.inl ⟨e, fun T h1 h2 => D T h1 (key T h1 h2)⟩
  · exact Or.inr ⟨T, h1, Nat.lt_of_lt_of_le h2 (Nat.pow_le_pow_right (by decide) (by omega)), h3, h4, fun T' q1 q2 => h5 T' q1 (key T' q1 q2)⟩
theorem Dv.low {C s : Nat} {v : Int32} (hk : k < gN g) (hs : s < gT g k) (D : Dv g C k s v) : Dv g C (k + 1) s v := by
  have key : ∀ T, T < 2 ^ (k + 1) → gW g T = s → T < 2 ^ k := fun T h2 h3 => top_no h2 (by
    cases c : T.testBit k
    · rfl
    · obtain ⟨e1, e2⟩ := top_split h2 c
      rw [e1, gW_top hk e2] at h3
      omega)
  rcases D with ⟨e, D⟩ | ⟨T, h1, h2, h3, h4, h5⟩
  · exact Or.inl ⟨e, fun T h1 h2 h3 => D T h1 (key T h2 h3) h3⟩
  · exact Or.inr ⟨T, h1, Nat.lt_of_lt_of_le h2 (Nat.pow_le_pow_right (by decide) (by omega)), h3, h4, fun T' q1 q2 q3 => h5 T' q1 (key T' q2 q3) q3⟩
theorem m1_lt {n : Nat} (hn : n < 2147483648) : (-1 : Int32) < w n := by
  rw [Int32.lt_iff_toInt_lt, w_int hn]
  have : (-1 : Int32).toInt = -1 := by decide
  rw [this]; omega
theorem max_m1 {n : Nat} (hn : n < 2147483648) : f_J9_max_7cf53 (-1 : Int32) (w n) = w n := by
  unfold f_J9_max_7cf53
  rw [if_pos (m1_lt hn)]
theorem max_ww {n m : Nat} (hn : n < 2147483648) (hm : m < 2147483648) : f_J9_max_7cf53 (w n) (w m) = w (max n m) := by
  unfold f_J9_max_7cf53
  by_cases c : n < m
  · rw [if_pos ((w_lt hn hm).mpr c)]; congr 1; omega
  · rw [if_neg (fun q => c ((w_lt hn hm).mp q))]; congr 1; omega
theorem Dv.step {C s : Nat} (hC : C < 1024) (hk : k < gN g) (hk10 : k < 10) (hb : C.testBit k = true) (hs : gT g k ≤ s) (D : Dv g C k s (f s)) (E : Dv g C k (s - gT g k) (f (s - gT g k))) : Dv g C (k + 1) s (nxt (gT g k) (2 ^ (9 - k)) f s) := by
  have up : ∀ T, T < 2 ^ k → T < 2 ^ (k + 1) := fun T h => Nat.lt_of_lt_of_le h (Nat.pow_le_pow_right (by decide) (by omega))
  have small : ∀ T, T &&& C = T → T < 1024 := fun T h => Nat.lt_of_le_of_lt (sub_le h) hC
  unfold nxt
  rcases E with ⟨e, E⟩ | ⟨U, u1, u2, u3, u4, u5⟩
  · rw [e, if_pos (by decide)]
    have key : ∀ T, T &&& C = T → T < 2 ^ (k + 1) → gW g T = s → T < 2 ^ k := fun T h1 h2 h3 => top_no h2 (by
      cases c : T.testBit k
      · rfl
      · obtain ⟨e1, e2⟩ := top_split h2 c
        rw [e1, gW_top hk e2] at h3
        exact absurd (by omega) (E _ (sub_low h1) e2))
    rcases D with ⟨e, D⟩ | ⟨T, h1, h2, h3, h4, h5⟩
    · exact Or.inl ⟨e, fun T h1 h2 h3 => D T h1 (key T h1 h2 h3) h3⟩
    · exact Or.inr ⟨T, h1, up T h2, h3, h4, fun T' q1 q2 q3 => h5 T' q1 (key T' q1 q2 q3) q3⟩
  · have hu := rv_lt U (small U u1)
    have hu1 := rv_lt (U ||| 2 ^ k) (small _ (sub_or u1 hb))
    have n0 : ¬ f (s - gT g k) < 0 := by rw [u4]; exact w_nonneg (by omega)
    rw [if_neg n0, u4, w_or, rv_low k hk10 U u2, ← rv_top hk10 u2]
    have wU : gW g (U ||| 2 ^ k) = s := by rw [gW_top hk u2, u3]; omega
    have best : ∀ T, T &&& C = T → T < 2 ^ (k + 1) → gW g T = s → T.testBit k = true → rv T ≤ rv (U ||| 2 ^ k) := fun T h1 h2 h3 c => by
      obtain ⟨e1, e2⟩ := top_split h2 c
      rw [e1, gW_top hk e2] at h3
      have := u5 _ (sub_low h1) e2 (by omega)
      rw [e1, rv_top hk10 e2, rv_top hk10 u2]
      omega
    rcases D with ⟨e, D⟩ | ⟨T, h1, h2, h3, h4, h5⟩
    · rw [e, max_m1 (by omega)]
      refine Or.inr ⟨_, sub_or u1 hb, or_lt u2, wU, rfl, fun T h1 h2 h3 => ?_⟩
      cases c : T.testBit k
      · exact absurd h3 (D T h1 (top_no h2 c))
      · exact best T h1 h2 h3 c
    · have ht := rv_lt T (small T h1)
      rw [h4, max_ww (by omega) (by omega)]
      by_cases c : rv T ≤ rv (U ||| 2 ^ k)
      · rw [Nat.max_eq_right c]
        refine Or.inr ⟨_, sub_or u1 hb, or_lt u2, wU, rfl, fun T' q1 q2 q3 => ?_⟩
        cases d : T'.testBit k
        · exact Nat.le_trans (h5 T' q1 (top_no q2 d) q3) c
        · exact best T' q1 q2 q3 d
      · rw [Nat.max_eq_left (by omega)]
        refine Or.inr ⟨T, h1, up T h2, h3, rfl, fun T' q1 q2 q3 => ?_⟩
        cases d : T'.testBit k
        · exact h5 T' q1 (top_no q2 d) q3
        · have := best T' q1 q2 q3 d
          omega
end CLAND
