/-! THE CHANGES of the game's row, and what holds behind each of them -/
section EFF
theorem upd_ne {f : Nat → Int32} {i j : Nat} {x : Int32} (h : j ≠ i) : upd f i x j = f j := if_neg h
theorem upd_eq (f : Nat → Int32) (i : Nat) (x : Int32) : upd f i x i = x := if_pos rfl
def eNote (g : GS) (p t : Int32) : GS := upd (upd (upd (upd (upd g 0 (w (gN g + 1))) (44 + 4 * gN g) p) (45 + 4 * gN g) t) (46 + 4 * gN g) 0) (47 + 4 * gN g) 0
def eCite (g : GS) (k j : Nat) : GS := upd g (47 + 4 * k) (w (gU g k ^^^ 2 ^ j))
def eCur (g : GS) (p : Nat) (x : Int32) : GS := upd g (8 + p) x
def eQuo (g : GS) (p : Nat) (x : Int32) : GS := upd g (20 + p) x
def eNet (g : GS) (f s m : Int32) : GS := upd (upd (upd (upd g (84 + 3 * gM g) f) (85 + 3 * gM g) s) (86 + 3 * gM g) m) 1 (w (gM g + 1))
def eFree (g : GS) (k : Nat) : GS := upd (upd g (46 + 4 * k) 0) 7 (g 7 + 1)
def eLic (g : GS) : GS := upd (upd g 3 1) 4 (g 4 - w (prc (gS g)))
variable {B : Nat} {g g' : GS} {k p : Nat}
theorem okNote.same (O : okNote g k) (hn : gN g ≤ gN g') (h : ∀ j, j < 4 → g' (44 + 4 * k + j) = g (44 + 4 * k + j)) : okNote g' k := by
  have h0 : g' (44 + 4 * k) = g (44 + 4 * k) := h 0 (by decide)
  have h1 : g' (45 + 4 * k) = g (45 + 4 * k) := by have := h 1 (by decide); rwa [show 44 + 4 * k + 1 = 45 + 4 * k by omega] at this
  have h2 : g' (46 + 4 * k) = g (46 + 4 * k) := by have := h 2 (by decide); rwa [show 44 + 4 * k + 2 = 46 + 4 * k by omega] at this
  have h3 : g' (47 + 4 * k) = g (47 + 4 * k) := by have := h 3 (by decide); rwa [show 44 + 4 * k + 3 = 47 + 4 * k by omega] at this
  obtain ⟨q1, q2, q3, q4, q5, q6, q7, q8, q9, q10⟩ := O
  unfold okNote gP gT gH gU at *
  rw [h0, h1, h2, h3]
  exact ⟨q1, q2, q3, q4, q5, q6, q7, q8, Nat.lt_of_lt_of_le q9 (Nat.pow_le_pow_right (by decide) hn), q10⟩
theorem okPage.same (O : okPage g p) (h8 : g' (8 + p) = g (8 + p)) (h20 : g' (20 + p) = g (20 + p)) (h32 : g' (32 + p) = g (32 + p)) : okPage g' p := by
  unfold okPage gQ gL at *
  rw [h8, h20, h32]
  exact O
theorem okNet.same (O : okNet g k) (h : ∀ j, j < 3 → g' (84 + 3 * k + j) = g (84 + 3 * k + j)) : okNet g' k := by
  have h0 : g' (84 + 3 * k) = g (84 + 3 * k) := h 0 (by decide)
  have h1 : g' (85 + 3 * k) = g (85 + 3 * k) := by have := h 1 (by decide); rwa [show 84 + 3 * k + 1 = 85 + 3 * k by omega] at this
  have h2 : g' (86 + 3 * k) = g (86 + 3 * k) := by have := h 2 (by decide); rwa [show 84 + 3 * k + 2 = 86 + 3 * k by omega] at this
  unfold okNet gF gE gK at *
  rw [h0, h1, h2]
  exact O
theorem gN_of {n : Nat} (h : g 0 = w n) (hn : n < 2147483648) : gN g = n := by unfold gN; rw [h]; exact nv_w hn
theorem gM_of {n : Nat} (h : g 1 = w n) (hn : n < 2147483648) : gM g = n := by unfold gM; rw [h]; exact nv_w hn
theorem gD_of {n : Nat} (h : g 2 = w n) (hn : n < 2147483648) : gD g = n := by unfold gD; rw [h]; exact nv_w hn
/-- Ok out of its pieces, where counts, day and licence are as before -/
theorem Ok.keep (O : Ok B g) (h0 : g' 0 = g 0) (h1 : g' 1 = g 1) (h2 : g' 2 = g 2) (h3 : g' 3 = 0 ∨ g' 3 = 1) (hn : ∀ k, k < gN g → okNote g' k) (hp : ∀ p, p < 12 → okPage g' p) (hm : ∀ k, k < gM g → okNet g' k) (h6 : g' 6 = w (cn (fun k => gH g' k == 2) (gN g))) : Ok B g' := by
  have e0 : gN g' = gN g := by unfold gN; rw [h0]
  have e1 : gM g' = gM g := by unfold gM; rw [h1]
  have e2 : gD g' = gD g := by unfold gD; rw [h2]
  refine ⟨O.hb, ?_, ?_, ?_, ?_, ?_, ?_, h3, ?_, hp, ?_, ?_⟩
  · rw [e0, h0]; exact O.g0
  · rw [e0]; exact O.n
  · rw [e1, h1]; exact O.g1
  · rw [e1]; exact O.m
  · rw [e2, h2]; exact O.g2
  · rw [e2]; exact O.d
  · rw [e0]; exact hn
  · rw [e1]; exact hm
  · rw [e0]; exact h6
theorem gH_ne {i : Nat} {x : Int32} (h : 46 + 4 * k ≠ i) : gH (upd g i x) k = gH g k := by unfold gH; rw [upd_ne h]
theorem Ok.note_ok (O : Ok B g) (hN : gN g < 10) {p t : Nat} (hp : p < 12) (h1 : 1 ≤ t) (h2 : t ≤ 30) : Ok B (eNote g (w p) (w t)) ∧ gN (eNote g (w p) (w t)) = gN g + 1 := by
  have e0 : eNote g (w p) (w t) 0 = w (gN g + 1) := by unfold eNote; simp (disch := omega) only [upd_ne, upd_eq]
  have en : gN (eNote g (w p) (w t)) = gN g + 1 := gN_of e0 (by omega)
  have same : ∀ i, i ≠ 0 → (∀ j, j < 4 → i ≠ 44 + 4 * gN g + j) → eNote g (w p) (w t) i = g i := fun i hi hj => by
    have a0 := hj 0 (by decide); have a1 := hj 1 (by decide); have a2 := hj 2 (by decide); have a3 := hj 3 (by decide)
    unfold eNote; simp (disch := omega) only [upd_ne]
  have e1 : gM (eNote g (w p) (w t)) = gM g := by unfold gM; rw [same 1 (by omega) (fun j _ => by omega)]
  have e2 : gD (eNote g (w p) (w t)) = gD g := by unfold gD; rw [same 2 (by omega) (fun j _ => by omega)]
  have n0 : eNote g (w p) (w t) (44 + 4 * gN g) = w p := by unfold eNote; simp (disch := omega) only [upd_ne, upd_eq]
  have n1 : eNote g (w p) (w t) (45 + 4 * gN g) = w t := by unfold eNote; simp (disch := omega) only [upd_ne, upd_eq]
  have n2 : eNote g (w p) (w t) (46 + 4 * gN g) = w 0 := by unfold eNote; simp (disch := omega) only [upd_ne, upd_eq]; rfl
  have n3 : eNote g (w p) (w t) (47 + 4 * gN g) = w 0 := by unfold eNote; rw [upd_eq]; rfl
  have old : ∀ k, k < gN g → ∀ j, j < 4 → eNote g (w p) (w t) (44 + 4 * k + j) = g (44 + 4 * k + j) := fun k hk j hj => same _ (by omega) (fun i hi => by omega)
  refine ⟨⟨O.hb, ?_, by omega, ?_, ?_, ?_, ?_, ?_, fun k hk => ?_, fun q hq => ?_, fun k hk => ?_, ?_⟩, en⟩
  · rw [en]; exact e0
  · rw [e1, same 1 (by omega) (fun j _ => by omega)]; exact O.g1
  · rw [e1]; exact O.m
  · rw [e2, same 2 (by omega) (fun j _ => by omega)]; exact O.g2
  · rw [e2]; exact O.d
  · rw [same 3 (by omega) (fun j _ => by omega)]; exact O.li
  · by_cases hk' : k < gN g
    · exact (O.note hk').same (by omega) (old k hk')
    · have ek : k = gN g := by omega
      subst ek
      have q0 : gP (eNote g (w p) (w t)) (gN g) = p := by unfold gP; rw [n0]; exact nv_w (by omega)
      have q1 : gT (eNote g (w p) (w t)) (gN g) = t := by unfold gT; rw [n1]; exact nv_w (by omega)
      have q2 : gH (eNote g (w p) (w t)) (gN g) = 0 := by unfold gH; rw [n2]; exact nv_w (by omega)
      have q3 : gU (eNote g (w p) (w t)) (gN g) = 0 := by unfold gU; rw [n3]; exact nv_w (by omega)
      unfold okNote
      rw [q0, q1, q2, q3]
      exact ⟨n0, hp, n1, h1, h2, n2, by omega, n3, Nat.two_pow_pos _, Nat.zero_testBit _⟩
  · exact (O.page hq).same (same _ (by omega) (fun j _ => by omega)) (same _ (by omega) (fun j _ => by omega)) (same _ (by omega) (fun j _ => by omega))
  · rw [e1] at hk
    exact (O.net hk).same (fun j hj => same _ (by omega) (fun i _ => by have := O.n; omega))
  · rw [en, same 6 (by omega) (fun j _ => by omega), O.g6]
    congr 1
    have q2 : gH (eNote g (w p) (w t)) (gN g) = 0 := by unfold gH; rw [n2]; exact nv_w (by omega)
    show _ = cn (fun k => gH (eNote g (w p) (w t)) k == 2) (gN g) + (gH (eNote g (w p) (w t)) (gN g) == 2).toNat
    rw [q2]
    show _ = cn (fun k => gH (eNote g (w p) (w t)) k == 2) (gN g)
    refine cn_ext fun k hk => ?_
    have : gH (eNote g (w p) (w t)) k = gH g k := by unfold gH; rw [show 46 + 4 * k = 44 + 4 * k + 2 by omega, old k hk 2 (by decide)]
    rw [this]
theorem Ok.cite_ok (O : Ok B g) {k j : Nat} (hk : k < gN g) (hj : j < gN g) (hkj : k ≠ j) : Ok B (eCite g k j) := by
  have hn := O.n
  have hu : gU g k ^^^ 2 ^ j < 2 ^ gN g := Nat.xor_lt_two_pow (O.note hk).2.2.2.2.2.2.2.2.1 (Nat.pow_lt_pow_right (by decide) hj)
  have hs := small10 hn hu
  have same : ∀ i, i ≠ 47 + 4 * k → eCite g k j i = g i := fun i hi => upd_ne hi
  have e0 : gN (eCite g k j) = gN g := by unfold gN; rw [same 0 (by omega)]
  refine O.keep (same 0 (by omega)) (same 1 (by omega)) (same 2 (by omega)) (by rw [same 3 (by omega)]; exact O.li) (fun i hi => ?_) (fun q hq => ?_) (fun i hi => ?_) ?_
  · by_cases e : i = k
    · subst e
      obtain ⟨q1, q2, q3, q4, q5, q6, q7, q8, q9, q10⟩ := O.note hk
      have n3 : eCite g i j (47 + 4 * i) = w (gU g i ^^^ 2 ^ j) := upd_eq _ _ _
      have u3 : gU (eCite g i j) i = gU g i ^^^ 2 ^ j := (congrArg nv n3).trans (nv_w (by omega))
      unfold okNote gP gT gH
      rw [same (44 + 4 * i) (by omega), same (45 + 4 * i) (by omega), same (46 + 4 * i) (by omega), u3, e0]
      refine ⟨q1, q2, q3, q4, q5, q6, q7, n3, hu, ?_⟩
      rw [Nat.testBit_xor, q10, Nat.testBit_two_pow]
      simp; omega
    · exact (O.note hi).same (by omega) (fun z hz => same _ (by omega))
  · exact (O.page hq).same (same _ (by omega)) (same _ (by omega)) (same _ (by omega))
  · exact (O.net hi).same (fun z hz => same _ (by omega))
  · rw [same 6 (by omega), O.g6]
    congr 1
    refine cn_ext fun i hi => ?_
    unfold gH
    rw [same (46 + 4 * i) (by omega)]
theorem Ok.cur_ok (O : Ok B g) {p : Nat} (hp : p < 12) {x : Int32} (hx : x = 0 ∨ x = 1 ∨ x = -1) : Ok B (eCur g p x) := by
  have same : ∀ i, i ≠ 8 + p → eCur g p x i = g i := fun i hi => upd_ne hi
  refine O.keep (same 0 (by omega)) (same 1 (by omega)) (same 2 (by omega)) (by rw [same 3 (by omega)]; exact O.li) (fun i hi => (O.note hi).same (by unfold gN; rw [same 0 (by omega)]; exact Nat.le_refl _) (fun z hz => same _ (by omega))) (fun q hq => ?_) (fun i hi => (O.net hi).same (fun z hz => same _ (by omega))) ?_
  · by_cases e : q = p
    · subst e
      obtain ⟨q1, q2⟩ := O.page hq
      unfold okPage gQ gL at *
      rw [same (20 + q) (by omega), same (32 + q) (by omega), show eCur g q x (8 + q) = x from upd_eq _ _ _]
      exact ⟨hx, q2⟩
    · exact (O.page hq).same (same _ (by omega)) (same _ (by omega)) (same _ (by omega))
  · rw [same 6 (by omega), O.g6]
    congr 1
    exact cn_ext fun i hi => by unfold gH; rw [same (46 + 4 * i) (by omega)]
theorem Ok.quo_ok (O : Ok B g) {p q : Nat} (hp : p < 12) (hq : q ≤ 99) : Ok B (eQuo g p (w q)) := by
  have same : ∀ i, i ≠ 20 + p → eQuo g p (w q) i = g i := fun i hi => upd_ne hi
  refine O.keep (same 0 (by omega)) (same 1 (by omega)) (same 2 (by omega)) (by rw [same 3 (by omega)]; exact O.li) (fun i hi => (O.note hi).same (by unfold gN; rw [same 0 (by omega)]; exact Nat.le_refl _) (fun z hz => same _ (by omega))) (fun r hr => ?_) (fun i hi => (O.net hi).same (fun z hz => same _ (by omega))) ?_
  · by_cases e : r = p
    · subst e
      obtain ⟨q1, q2, q3, q4, q5⟩ := O.page hr
      have e20 : eQuo g r (w q) (20 + r) = w q := upd_eq _ _ _
      have eQ : gQ (eQuo g r (w q)) r = q := by unfold gQ; rw [e20]; exact nv_w (by omega)
      unfold okPage gL at *
      rw [eQ, same (8 + r) (by omega), same (32 + r) (by omega)]
      exact ⟨q1, e20, hq, q4, q5⟩
    · exact (O.page hr).same (same _ (by omega)) (same _ (by omega)) (same _ (by omega))
  · rw [same 6 (by omega), O.g6]
    congr 1
    exact cn_ext fun i hi => by unfold gH; rw [same (46 + 4 * i) (by omega)]
theorem Ok.net_ok (O : Ok B g) (hM : gM g < 5) {f s t : Nat} (hf : f < 12) (hs1 : 1 ≤ s) (hs : s ≤ 12) (ht1 : 1 ≤ t) (ht : t ≤ 30) : Ok B (eNet g (w f) (w s) (w t)) ∧ gM (eNet g (w f) (w s) (w t)) = gM g + 1 := by
  have e1 : eNet g (w f) (w s) (w t) 1 = w (gM g + 1) := upd_eq _ _ _
  have em : gM (eNet g (w f) (w s) (w t)) = gM g + 1 := gM_of e1 (by omega)
  have same : ∀ i, i ≠ 1 → (∀ j, j < 3 → i ≠ 84 + 3 * gM g + j) → eNet g (w f) (w s) (w t) i = g i := fun i hi hj => by
    have a0 := hj 0 (by decide); have a1 := hj 1 (by decide); have a2 := hj 2 (by decide)
    unfold eNet; simp (disch := omega) only [upd_ne]
  have e0 : gN (eNet g (w f) (w s) (w t)) = gN g := by unfold gN; rw [same 0 (by omega) (fun j _ => by omega)]
  have e2 : gD (eNet g (w f) (w s) (w t)) = gD g := by unfold gD; rw [same 2 (by omega) (fun j _ => by omega)]
  have n0 : eNet g (w f) (w s) (w t) (84 + 3 * gM g) = w f := by unfold eNet; simp (disch := omega) only [upd_ne, upd_eq]
  have n1 : eNet g (w f) (w s) (w t) (85 + 3 * gM g) = w s := by unfold eNet; simp (disch := omega) only [upd_ne, upd_eq]
  have n2 : eNet g (w f) (w s) (w t) (86 + 3 * gM g) = w t := by unfold eNet; simp (disch := omega) only [upd_ne, upd_eq]
  have hN := O.n
  refine ⟨⟨O.hb, ?_, ?_, ?_, by omega, ?_, ?_, ?_, fun k hk => ?_, fun q hq => ?_, fun k hk => ?_, ?_⟩, em⟩
  · rw [e0, same 0 (by omega) (fun j _ => by omega)]; exact O.g0
  · rw [e0]; exact O.n
  · rw [em]; exact e1
  · rw [e2, same 2 (by omega) (fun j _ => by omega)]; exact O.g2
  · rw [e2]; exact O.d
  · rw [same 3 (by omega) (fun j _ => by omega)]; exact O.li
  · rw [e0] at hk
    exact (O.note hk).same (by omega) (fun z hz => same _ (by omega) (fun j _ => by omega))
  · exact (O.page hq).same (same _ (by omega) (fun j _ => by omega)) (same _ (by omega) (fun j _ => by omega)) (same _ (by omega) (fun j _ => by omega))
  · by_cases hk' : k < gM g
    · exact (O.net hk').same (fun z hz => same _ (by omega) (fun j _ => by omega))
    · have ek : k = gM g := by omega
      subst ek
      have q0 : gF (eNet g (w f) (w s) (w t)) (gM g) = f := by unfold gF; rw [n0]; exact nv_w (by omega)
      have q1 : gE (eNet g (w f) (w s) (w t)) (gM g) = s := by unfold gE; rw [n1]; exact nv_w (by omega)
      have q2 : gK (eNet g (w f) (w s) (w t)) (gM g) = t := by unfold gK; rw [n2]; exact nv_w (by omega)
      unfold okNet
      rw [q0, q1, q2]
      exact ⟨n0, hf, n1, hs1, hs, n2, ht1, ht⟩
  · rw [e0, same 6 (by omega) (fun j _ => by omega), O.g6]
    congr 1
    exact cn_ext fun i hi => by unfold gH; rw [same (46 + 4 * i) (by omega) (fun j _ => by omega)]
theorem Ok.free_ok (O : Ok B g) {k : Nat} (hk : k < gN g) (hH : gH g k = 1) : Ok B (eFree g k) := by
  have hn := O.n
  have same : ∀ i, i ≠ 46 + 4 * k → i ≠ 7 → eFree g k i = g i := fun i hi h7 => by unfold eFree; simp (disch := omega) only [upd_ne]
  have n2 : eFree g k (46 + 4 * k) = w 0 := by unfold eFree; simp (disch := omega) only [upd_ne, upd_eq]; rfl
  have q2 : gH (eFree g k) k = 0 := by unfold gH; rw [n2]; exact nv_w (by omega)
  refine O.keep (same 0 (by omega) (by omega)) (same 1 (by omega) (by omega)) (same 2 (by omega) (by omega)) (by rw [same 3 (by omega) (by omega)]; exact O.li) (fun i hi => ?_) (fun q hq => (O.page hq).same (same _ (by omega) (by omega)) (same _ (by omega) (by omega)) (same _ (by omega) (by omega))) (fun i hi => (O.net hi).same (fun z hz => same _ (by omega) (by omega))) ?_
  · by_cases e : i = k
    · subst e
      obtain ⟨q1, q2', q3, q4, q5, q6, q7, q8, q9, q10⟩ := O.note hk
      unfold okNote
      rw [q2]
      unfold gP gT gU gN
      rw [same (44 + 4 * i) (by omega) (by omega), same (45 + 4 * i) (by omega) (by omega), same (47 + 4 * i) (by omega) (by omega), same 0 (by omega) (by omega)]
      exact ⟨q1, q2', q3, q4, q5, n2, by omega, q8, q9, q10⟩
    · exact (O.note hi).same (by unfold gN; rw [same 0 (by omega) (by omega)]; exact Nat.le_refl _) (fun z hz => same _ (by omega) (by omega))
  · rw [same 6 (by omega) (by omega), O.g6]
    congr 1
    refine cn_ext fun i hi => ?_
    by_cases e : i = k
    · subst e; rw [q2, hH]; rfl
    · unfold gH; rw [same (46 + 4 * i) (by omega) (by omega)]
theorem Ok.lic_ok (O : Ok B g) : Ok B (eLic g) := by
  have same : ∀ i, i ≠ 3 → i ≠ 4 → eLic g i = g i := fun i hi h7 => by unfold eLic; simp (disch := omega) only [upd_ne]
  have n3 : eLic g 3 = 1 := by unfold eLic; simp (disch := omega) only [upd_ne, upd_eq]
  refine O.keep (same 0 (by omega) (by omega)) (same 1 (by omega) (by omega)) (same 2 (by omega) (by omega)) (Or.inr n3) (fun i hi => (O.note hi).same (by unfold gN; rw [same 0 (by omega) (by omega)]; exact Nat.le_refl _) (fun z hz => same _ (by omega) (by omega))) (fun q hq => (O.page hq).same (same _ (by omega) (by omega)) (same _ (by omega) (by omega)) (same _ (by omega) (by omega))) (fun i hi => (O.net hi).same (fun z hz => same _ (by omega) (by omega))) ?_
  rw [same 6 (by omega) (by omega), O.g6]
  congr 1
  exact cn_ext fun i hi => by unfold gH; rw [same (46 + 4 * i) (by omega) (by omega)]
end EFF
