/-! the class's changes of a State: notes, citations, pages, nets, letting go, licences -/
section CREW
variable {B : Nat} {g : GS} {h : PH} {a k p : Nat}
/-- a State shows another row behind writes -/
theorem Sg.put (H : Sg B h a g) {g' : GS} {h' : PH} {s' : CS} (O' : Ok B g') (S' : StC h' a s') (R' : Rel s' g') : Sg B h' a g' := ⟨O', s', S', R'⟩
theorem putNote_ok (H : Sg B h a g) (hN : gN g < 10) {p t : Nat} (hp : p < 12) (h1 : 1 ≤ t) (h2 : t ≤ 30) : ∃ h', f_X1_putNote h a (w p) (w t) = some (w (gN g), h') ∧ Sg B h' a (eNote g (w p) (w t)) ∧ fr (stW a) h h' := by
  have i0 := H.i0
  obtain ⟨O, s, S, R⟩ := H
  obtain ⟨O', en⟩ := O.note_ok hN hp h1 h2
  obtain ⟨x1, e1, S1, F1⟩ := S.s1 (x := w p) hN
  obtain ⟨x2, e2, S2, F2⟩ := S1.s2 (x := w t) hN
  obtain ⟨x3, e3, S3, F3⟩ := S2.s3 (x := 102) hN rfl rfl
  obtain ⟨x4, e4, S4, F4⟩ := S3.s4 (x := 0) hN
  obtain ⟨x5, e5, S5, F5, -⟩ := S4.w0 (x := w (gN g) + 1)
  unfold f_X1_putNote
  simp only [i0, Option.bind_some, S.r1, e1, S1.r2, e2, S2.r3, e3, S3.r4, e4, e5]
  refine ⟨x5, rfl, ⟨O', _, S5, ?_⟩, (((F1.trans F2).trans F3).trans F4).trans F5⟩
  obtain ⟨r1, r2, r3, r4, r5, r6, r7, r8, r9, r10⟩ := R
  have same : ∀ i, i ≠ 0 → (∀ j, j < 4 → i ≠ 44 + 4 * gN g + j) → eNote g (w p) (w t) i = g i := fun i hi hj => by
    have a0 := hj 0 (by decide); have a1 := hj 1 (by decide); have a2 := hj 2 (by decide); have a3 := hj 3 (by decide)
    unfold eNote; simp (disch := omega) only [upd_ne]
  have em : gM (eNote g (w p) (w t)) = gM g := by unfold gM; rw [same 1 (by omega) (fun j _ => by omega)]
  have n0 : eNote g (w p) (w t) (44 + 4 * gN g) = w p := by unfold eNote; simp (disch := omega) only [upd_ne, upd_eq]
  have n1 : eNote g (w p) (w t) (45 + 4 * gN g) = w t := by unfold eNote; simp (disch := omega) only [upd_ne, upd_eq]
  have n2 : eNote g (w p) (w t) (46 + 4 * gN g) = w 0 := by unfold eNote; simp (disch := omega) only [upd_ne, upd_eq]; rfl
  have n3 : eNote g (w p) (w t) (47 + 4 * gN g) = w 0 := by unfold eNote; rw [upd_eq]; rfl
  have q2 : gH (eNote g (w p) (w t)) (gN g) = 0 := by unfold gH; rw [n2]; exact nv_w (by omega)
  refine ⟨?_, ?_, ?_, ?_, ?_, ?_, ?_, fun k hk => ?_, fun q hq => ?_, fun k hk => ?_⟩
  · show w (gN g) + 1 = _
    rw [w_succ]; unfold eNote; simp (disch := omega) only [upd_ne, upd_eq]
  · rw [same 1 (by omega) (fun j _ => by omega)]; exact r2
  · rw [same 2 (by omega) (fun j _ => by omega)]; exact r3
  · rw [same 3 (by omega) (fun j _ => by omega)]; exact r4
  · rw [same 4 (by omega) (fun j _ => by omega)]; exact r5
  · rw [same 5 (by omega) (fun j _ => by omega)]; exact r6
  · rw [same 7 (by omega) (fun j _ => by omega)]; exact r7
  · rw [en] at hk
    show upd (s 1) (gN g) (w p) k = _ ∧ upd (s 2) (gN g) (w t) k = _ ∧ upd (s 3) (gN g) 102 k = _ ∧ upd (s 4) (gN g) 0 k = _
    by_cases e : k = gN g
    · subst e
      rw [upd_eq, upd_eq, upd_eq, upd_eq, n0, n1, n3, q2]
      exact ⟨rfl, rfl, rfl, rfl⟩
    · obtain ⟨z1, z2, z3, z4⟩ := r8 k (by omega)
      rw [upd_ne e, upd_ne e, upd_ne e, upd_ne e]
      unfold gH
      rw [same (44 + 4 * k) (by omega) (fun j _ => by omega), same (45 + 4 * k) (by omega) (fun j _ => by omega), same (46 + 4 * k) (by omega) (fun j _ => by omega), same (47 + 4 * k) (by omega) (fun j _ => by omega)]
      exact ⟨z1, z2, z3, z4⟩
  · rw [same (8 + q) (by omega) (fun j _ => by omega), same (20 + q) (by omega) (fun j _ => by omega), same (32 + q) (by omega) (fun j _ => by omega)]
    exact r9 q hq
  · rw [em] at hk
    rw [same (84 + 3 * k) (by omega) (fun j _ => by omega), same (85 + 3 * k) (by omega) (fun j _ => by omega), same (86 + 3 * k) (by omega) (fun j _ => by omega)]
    exact r10 k hk
/-- the cited row written -/
theorem cite_put (H : Sg B h a g) {k j : Nat} (hk : k < gN g) (hj : j < gN g) (hkj : k ≠ j) {x : Int32} (hx : x = w (gU g k ^^^ 2 ^ j)) : ∃ h', asI .int h (a + 4) (w k) x = some h' ∧ Sg B h' a (eCite g k j) ∧ fr (stW a) h h' := by
  subst hx
  have hn10 := H.ok.n
  obtain ⟨O, s, S, R⟩ := H
  obtain ⟨x1, e1, S1, F1⟩ := S.s4 (x := w (gU g k ^^^ 2 ^ j)) (Nat.lt_of_lt_of_le hk O.n)
  refine ⟨x1, e1, ⟨O.cite_ok hk hj hkj, _, S1, ?_⟩, F1⟩
  obtain ⟨r1, r2, r3, r4, r5, r6, r7, r8, r9, r10⟩ := R
  have same : ∀ i, i ≠ 47 + 4 * k → eCite g k j i = g i := fun i hi => upd_ne hi
  have en : gN (eCite g k j) = gN g := by unfold gN; rw [same 0 (by omega)]
  have em : gM (eCite g k j) = gM g := by unfold gM; rw [same 1 (by omega)]
  refine ⟨by rw [same 0 (by omega)]; exact r1, by rw [same 1 (by omega)]; exact r2, by rw [same 2 (by omega)]; exact r3, by rw [same 3 (by omega)]; exact r4, by rw [same 4 (by omega)]; exact r5, by rw [same 5 (by omega)]; exact r6, by rw [same 7 (by omega)]; exact r7, fun i hi => ?_, fun q hq => ?_, fun i hi => ?_⟩
  · rw [en] at hi
    obtain ⟨z1, z2, z3, z4⟩ := r8 i hi
    show s 1 i = _ ∧ s 2 i = _ ∧ s 3 i = _ ∧ upd (s 4) k (w (gU g k ^^^ 2 ^ j)) i = _
    unfold gH
    rw [same (44 + 4 * i) (by omega), same (45 + 4 * i) (by omega), same (46 + 4 * i) (by omega)]
    refine ⟨z1, z2, z3, ?_⟩
    by_cases e : i = k
    · subst e; rw [upd_eq]; exact (upd_eq _ _ _).symm
    · rw [upd_ne e, same (47 + 4 * i) (by omega)]; exact z4
  · rw [same (8 + q) (by omega), same (20 + q) (by omega), same (32 + q) (by omega)]
    exact r9 q hq
  · rw [em] at hi
    rw [same (84 + 3 * i) (by omega), same (85 + 3 * i) (by omega), same (86 + 3 * i) (by omega)]
    exact r10 i hi
theorem or_xor {U j : Nat} (h : U.testBit j = false) : U ||| 2 ^ j = U ^^^ 2 ^ j := Nat.eq_of_testBit_eq fun i => by
  rw [Nat.testBit_or, Nat.testBit_xor, Nat.testBit_two_pow]
  by_cases e : j = i
  · subst e; simp [h]
  · simp [e]
theorem and_not_w {U j : Nat} (hU : U < 1024) (hj : j < 10) (h : U.testBit j = true) : (w U &&& ((f_X9_bit (w j)) ^^^ (-1 : Int32))) = w (U ^^^ 2 ^ j) := by
  rw [bit_w (by omega)]
  apply Int32.toBitVec_inj.1
  show BitVec.ofNat 32 U &&& (BitVec.ofNat 32 (2 ^ j) ^^^ 4294967295#32) = BitVec.ofNat 32 (U ^^^ 2 ^ j)
  apply BitVec.eq_of_getLsbD_eq
  intro i hi
  have e1 : (4294967295#32).getLsbD i = true := by
    have : (4294967295#32) = BitVec.allOnes 32 := by decide
    rw [this, BitVec.getLsbD_allOnes]
    exact decide_eq_true hi
  rw [BitVec.getLsbD_and, BitVec.getLsbD_xor, e1]
  simp only [BitVec.getLsbD_ofNat, Nat.testBit_xor, Nat.testBit_two_pow]
  by_cases e : j = i
  · subst e; simp [h, hi]
  · simp [e, hi]
theorem perform_cite (H : Sg B h a g) (l : Nat) {k j : Nat} (hk : k < gN g) (hj : j < gN g) (hkj : k ≠ j) (hb : (gU g k).testBit j = false) (z : Int32) : ∃ h', f_X1_perform h a l (1 : Int32) (w k) (w j) z = some (w (pop (gU g k ^^^ 2 ^ j)), h') ∧ Sg B h' a (eCite g k j) ∧ fr (stW a) h h' := by
  have hn := H.ok.n
  obtain ⟨h', e1, H', F⟩ := cite_put H hk hj hkj (x := w (gU g k) ||| f_X9_bit (w j)) (by rw [bit_w (by omega), w_or, or_xor hb])
  have en : gN (eCite g k j) = gN g := by unfold gN; rw [show eCite g k j 0 = g 0 from upd_ne (by omega)]
  have eu : gU (eCite g k j) k = gU g k ^^^ 2 ^ j := by
    have hu : gU g k ^^^ 2 ^ j < 2 ^ gN g := Nat.xor_lt_two_pow (H.ok.note hk).2.2.2.2.2.2.2.2.1 (Nat.pow_lt_pow_right (by decide) hj)
    have := small10 hn hu
    exact (congrArg nv (upd_eq _ _ _)).trans (nv_w (by omega))
  have cc := countCitedFrom_ok H' (k := k) (by omega)
  rw [eu] at cc
  refine ⟨h', ?_, H', F⟩
  unfold f_X1_perform
  rw [if_neg (by decide), if_neg (by decide), if_pos rfl]
  simp only [H.r4, H.a4 hk, Option.bind_some, e1, H'.gd, cc]
theorem perform_drop (H : Sg B h a g) (l : Nat) {k j : Nat} (hk : k < gN g) (hj : j < gN g) (hkj : k ≠ j) (hb : (gU g k).testBit j = true) (z : Int32) : ∃ h', f_X1_perform h a l (2 : Int32) (w k) (w j) z = some (w (pop (gU g k ^^^ 2 ^ j)), h') ∧ Sg B h' a (eCite g k j) ∧ fr (stW a) h h' := by
  have hn := H.ok.n
  obtain ⟨h', e1, H', F⟩ := cite_put H hk hj hkj (x := w (gU g k) &&& ((f_X9_bit (w j)) ^^^ (-1 : Int32))) (and_not_w (gU_lt H.ok hk) (by omega) hb)
  have en : gN (eCite g k j) = gN g := by unfold gN; rw [show eCite g k j 0 = g 0 from upd_ne (by omega)]
  have eu : gU (eCite g k j) k = gU g k ^^^ 2 ^ j := by
    have hu : gU g k ^^^ 2 ^ j < 2 ^ gN g := Nat.xor_lt_two_pow (H.ok.note hk).2.2.2.2.2.2.2.2.1 (Nat.pow_lt_pow_right (by decide) hj)
    have := small10 hn hu
    exact (congrArg nv (upd_eq _ _ _)).trans (nv_w (by omega))
  have cc := countCitedFrom_ok H' (k := k) (by omega)
  rw [eu] at cc
  refine ⟨h', ?_, H', F⟩
  unfold f_X1_perform
  rw [if_neg (by decide), if_neg (by decide), if_neg (by decide), if_pos rfl]
  simp only [H.r4, H.a4 hk, Option.bind_some, e1, H'.gd, cc]
theorem cur_put (H : Sg B h a g) {p : Nat} (hp : p < 12) {x : Int32} (hx : x = 0 ∨ x = 1 ∨ x = -1) : ∃ h', f_X1_replace h (a + 5) (w p) x = some (g (8 + p), h') ∧ Sg B h' a (eCur g p x) ∧ fr (stW a) h h' := by
  have a5 := H.a5 hp
  obtain ⟨O, s, S, R⟩ := H
  obtain ⟨x1, e1, S1, F1⟩ := S.s5 (x := x) hp
  refine ⟨x1, by unfold f_X1_replace; simp only [a5, Option.bind_some, e1], ⟨O.cur_ok hp hx, _, S1, ?_⟩, F1⟩
  obtain ⟨r1, r2, r3, r4, r5, r6, r7, r8, r9, r10⟩ := R
  have same : ∀ i, i ≠ 8 + p → eCur g p x i = g i := fun i hi => upd_ne hi
  have en : gN (eCur g p x) = gN g := by unfold gN; rw [same 0 (by omega)]
  have em : gM (eCur g p x) = gM g := by unfold gM; rw [same 1 (by omega)]
  refine ⟨by rw [same 0 (by omega)]; exact r1, by rw [same 1 (by omega)]; exact r2, by rw [same 2 (by omega)]; exact r3, by rw [same 3 (by omega)]; exact r4, by rw [same 4 (by omega)]; exact r5, by rw [same 5 (by omega)]; exact r6, by rw [same 7 (by omega)]; exact r7, fun i hi => ?_, fun q hq => ?_, fun i hi => ?_⟩
  · rw [en] at hi
    unfold gH
    rw [same (44 + 4 * i) (by omega), same (45 + 4 * i) (by omega), same (46 + 4 * i) (by omega), same (47 + 4 * i) (by omega)]
    exact r8 i hi
  · obtain ⟨z1, z2, z3⟩ := r9 q hq
    show upd (s 5) p x q = _ ∧ s 6 q = _ ∧ s 7 q = _
    rw [same (20 + q) (by omega), same (32 + q) (by omega)]
    refine ⟨?_, z2, z3⟩
    by_cases e : q = p
    · subst e; rw [upd_eq]; exact (upd_eq _ _ _).symm
    · rw [upd_ne e, same (8 + q) (by omega)]; exact z1
  · rw [em] at hi
    rw [same (84 + 3 * i) (by omega), same (85 + 3 * i) (by omega), same (86 + 3 * i) (by omega)]
    exact r10 i hi
theorem quo_put (H : Sg B h a g) {p q : Nat} (hp : p < 12) (hq : q ≤ 99) : ∃ h', f_X1_replace h (a + 6) (w p) (w q) = some (w (gQ g p), h') ∧ Sg B h' a (eQuo g p (w q)) ∧ fr (stW a) h h' := by
  have a6 := H.a6 hp
  obtain ⟨O, s, S, R⟩ := H
  obtain ⟨x1, e1, S1, F1⟩ := S.s6 (x := w q) hp
  refine ⟨x1, by unfold f_X1_replace; simp only [a6, Option.bind_some, e1], ⟨O.quo_ok hp hq, _, S1, ?_⟩, F1⟩
  obtain ⟨r1, r2, r3, r4, r5, r6, r7, r8, r9, r10⟩ := R
  have same : ∀ i, i ≠ 20 + p → eQuo g p (w q) i = g i := fun i hi => upd_ne hi
  have en : gN (eQuo g p (w q)) = gN g := by unfold gN; rw [same 0 (by omega)]
  have em : gM (eQuo g p (w q)) = gM g := by unfold gM; rw [same 1 (by omega)]
  refine ⟨by rw [same 0 (by omega)]; exact r1, by rw [same 1 (by omega)]; exact r2, by rw [same 2 (by omega)]; exact r3, by rw [same 3 (by omega)]; exact r4, by rw [same 4 (by omega)]; exact r5, by rw [same 5 (by omega)]; exact r6, by rw [same 7 (by omega)]; exact r7, fun i hi => ?_, fun r hr => ?_, fun i hi => ?_⟩
  · rw [en] at hi
    unfold gH
    rw [same (44 + 4 * i) (by omega), same (45 + 4 * i) (by omega), same (46 + 4 * i) (by omega), same (47 + 4 * i) (by omega)]
    exact r8 i hi
  · obtain ⟨z1, z2, z3⟩ := r9 r hr
    show s 5 r = _ ∧ upd (s 6) p (w q) r = _ ∧ s 7 r = _
    rw [same (8 + r) (by omega), same (32 + r) (by omega)]
    refine ⟨z1, ?_, z3⟩
    by_cases e : r = p
    · subst e; rw [upd_eq]; exact (upd_eq _ _ _).symm
    · rw [upd_ne e, same (20 + r) (by omega)]; exact z2
  · rw [em] at hi
    rw [same (84 + 3 * i) (by omega), same (85 + 3 * i) (by omega), same (86 + 3 * i) (by omega)]
    exact r10 i hi
theorem putNet_ok (H : Sg B h a g) (hM : gM g < 5) {f s t : Nat} (hf : f < 12) (hs1 : 1 ≤ s) (hs : s ≤ 12) (ht1 : 1 ≤ t) (ht : t ≤ 30) : ∃ h', f_X1_putNet h a (w f) (w s) (w t) = some (w (gM g), h') ∧ Sg B h' a (eNet g (w f) (w s) (w t)) ∧ fr (stW a) h h' := by
  have i8 := H.i8
  have hN := H.ok.n
  obtain ⟨O, S0, S, R⟩ := H
  obtain ⟨O', em⟩ := O.net_ok hM hf hs1 hs ht1 ht
  obtain ⟨x1, e1, S1, F1⟩ := S.s9 (x := w f) hM
  obtain ⟨x2, e2, S2, F2⟩ := S1.s10 (x := w s) hM
  obtain ⟨x3, e3, S3, F3⟩ := S2.s11 (x := w t) hM
  obtain ⟨x4, e4, S4, F4, -⟩ := S3.w8 (x := w (gM g) + 1)
  unfold f_X1_putNet
  simp only [i8, Option.bind_some, S.r9, e1, S1.r10, e2, S2.r11, e3, e4]
  refine ⟨x4, rfl, ⟨O', _, S4, ?_⟩, ((F1.trans F2).trans F3).trans F4⟩
  obtain ⟨r1, r2, r3, r4, r5, r6, r7, r8, r9, r10⟩ := R
  have same : ∀ i, i ≠ 1 → (∀ j, j < 3 → i ≠ 84 + 3 * gM g + j) → eNet g (w f) (w s) (w t) i = g i := fun i hi hj => by
    have a0 := hj 0 (by decide); have a1 := hj 1 (by decide); have a2 := hj 2 (by decide)
    unfold eNet; simp (disch := omega) only [upd_ne]
  have en : gN (eNet g (w f) (w s) (w t)) = gN g := by unfold gN; rw [same 0 (by omega) (fun j _ => by omega)]
  have n0 : eNet g (w f) (w s) (w t) (84 + 3 * gM g) = w f := by unfold eNet; simp (disch := omega) only [upd_ne, upd_eq]
  have n1 : eNet g (w f) (w s) (w t) (85 + 3 * gM g) = w s := by unfold eNet; simp (disch := omega) only [upd_ne, upd_eq]
  have n2 : eNet g (w f) (w s) (w t) (86 + 3 * gM g) = w t := by unfold eNet; simp (disch := omega) only [upd_ne, upd_eq]
  refine ⟨by rw [same 0 (by omega) (fun j _ => by omega)]; exact r1, ?_, by rw [same 2 (by omega) (fun j _ => by omega)]; exact r3, by rw [same 3 (by omega) (fun j _ => by omega)]; exact r4, by rw [same 4 (by omega) (fun j _ => by omega)]; exact r5, by rw [same 5 (by omega) (fun j _ => by omega)]; exact r6, by rw [same 7 (by omega) (fun j _ => by omega)]; exact r7, fun i hi => ?_, fun q hq => ?_, fun i hi => ?_⟩
  · show w (gM g) + 1 = _
    rw [w_succ]; exact (upd_eq _ _ _).symm
  · rw [en] at hi
    unfold gH
    rw [same (44 + 4 * i) (by omega) (fun j _ => by omega), same (45 + 4 * i) (by omega) (fun j _ => by omega), same (46 + 4 * i) (by omega) (fun j _ => by omega), same (47 + 4 * i) (by omega) (fun j _ => by omega)]
    exact r8 i hi
  · rw [same (8 + q) (by omega) (fun j _ => by omega), same (20 + q) (by omega) (fun j _ => by omega), same (32 + q) (by omega) (fun j _ => by omega)]
    exact r9 q hq
  · rw [em] at hi
    show upd (S0 9) (gM g) (w f) i = _ ∧ upd (S0 10) (gM g) (w s) i = _ ∧ upd (S0 11) (gM g) (w t) i = _
    by_cases e : i = gM g
    · subst e
      rw [upd_eq, upd_eq, upd_eq, n0, n1, n2]
      exact ⟨rfl, rfl, rfl⟩
    · rw [upd_ne e, upd_ne e, upd_ne e, same (84 + 3 * i) (by omega) (fun j _ => by omega), same (85 + 3 * i) (by omega) (fun j _ => by omega), same (86 + 3 * i) (by omega) (fun j _ => by omega)]
      exact r10 i (by omega)
theorem giveBack_ok (H : Sg B h a g) {k : Nat} (hk : k < gN g) (hH : gH g k = 1) : ∃ h', f_X1_giveBack h a (w k) = some h' ∧ Sg B h' a (eFree g k) ∧ fr (stW a) h h' := by
  have hn := H.ok.n
  have i16 := H.i16
  obtain ⟨O, s, S, R⟩ := H
  obtain ⟨x1, e1, S1, F1⟩ := S.s3 (x := 102) (Nat.lt_of_lt_of_le hk hn) rfl rfl
  have i16' : rdI x1 a 9 16 = some (g 7) := by rw [S1.i16]; exact congrArg some R.2.2.2.2.2.2.1
  obtain ⟨x2, e2, S2, F2, -⟩ := S1.w16 (x := g 7 + 1)
  refine ⟨x2, by unfold f_X1_giveBack; simp only [S.r3, Option.bind_some, e1, i16', e2], ⟨O.free_ok hk hH, _, S2, ?_⟩, F1.trans F2⟩
  obtain ⟨r1, r2, r3, r4, r5, r6, r7, r8, r9, r10⟩ := R
  have same : ∀ i, i ≠ 46 + 4 * k → i ≠ 7 → eFree g k i = g i := fun i hi h7 => by unfold eFree; simp (disch := omega) only [upd_ne]
  have en : gN (eFree g k) = gN g := by unfold gN; rw [same 0 (by omega) (by omega)]
  have em : gM (eFree g k) = gM g := by unfold gM; rw [same 1 (by omega) (by omega)]
  have q2 : gH (eFree g k) k = 0 := by
    have n2 : eFree g k (46 + 4 * k) = w 0 := by unfold eFree; simp (disch := omega) only [upd_ne, upd_eq]; rfl
    unfold gH; rw [n2]; exact nv_w (by omega)
  refine ⟨by rw [same 0 (by omega) (by omega)]; exact r1, by rw [same 1 (by omega) (by omega)]; exact r2, by rw [same 2 (by omega) (by omega)]; exact r3, by rw [same 3 (by omega) (by omega)]; exact r4, by rw [same 4 (by omega) (by omega)]; exact r5, by rw [same 5 (by omega) (by omega)]; exact r6, (upd_eq _ _ _).symm, fun i hi => ?_, fun q hq => ?_, fun i hi => ?_⟩
  · rw [en] at hi
    obtain ⟨z1, z2, z3, z4⟩ := r8 i hi
    show s 1 i = _ ∧ s 2 i = _ ∧ upd (s 3) k 102 i = _ ∧ s 4 i = _
    rw [same (44 + 4 * i) (by omega) (by omega), same (45 + 4 * i) (by omega) (by omega), same (47 + 4 * i) (by omega) (by omega)]
    refine ⟨z1, z2, ?_, z4⟩
    by_cases e : i = k
    · subst e; rw [upd_eq, q2]; rfl
    · rw [upd_ne e]; unfold gH; rw [same (46 + 4 * i) (by omega) (by omega)]; exact z3
  · rw [same (8 + q) (by omega) (by omega), same (20 + q) (by omega) (by omega), same (32 + q) (by omega) (by omega)]
    exact r9 q hq
  · rw [em] at hi
    rw [same (84 + 3 * i) (by omega) (by omega), same (85 + 3 * i) (by omega) (by omega), same (86 + 3 * i) (by omega) (by omega)]
    exact r10 i hi
theorem payLicence_ok (H : Sg B h a g) (Pr : Pri h) : ∃ h', f_X1_payLicence h a = some (g 4 - w (prc (gS g)), h') ∧ Sg B h' a (eLic g) ∧ fr (stW a) h h' := by
  have i14 := H.i14
  have pr := price_ok H Pr
  have gdH := H.gd
  obtain ⟨O, s, S, R⟩ := H
  obtain ⟨x1, e1, S1, F1, -⟩ := S.w14 (x := g 4 - w (prc (gS g)))
  obtain ⟨x2, e2, S2, F2, -⟩ := S1.w12 (x := 1) (Or.inr rfl)
  refine ⟨x2, by unfold f_X1_payLicence; simp only [i14, gdH, pr, Option.bind_some, e1, e2, S2.i14]; rfl, ⟨O.lic_ok, _, S2, ?_⟩, F1.trans F2⟩
  obtain ⟨r1, r2, r3, r4, r5, r6, r7, r8, r9, r10⟩ := R
  have same : ∀ i, i ≠ 3 → i ≠ 4 → eLic g i = g i := fun i hi h7 => by unfold eLic; simp (disch := omega) only [upd_ne]
  have n3 : eLic g 3 = 1 := by unfold eLic; simp (disch := omega) only [upd_ne, upd_eq]
  have en : gN (eLic g) = gN g := by unfold gN; rw [same 0 (by omega) (by omega)]
  have em : gM (eLic g) = gM g := by unfold gM; rw [same 1 (by omega) (by omega)]
  refine ⟨by rw [same 0 (by omega) (by omega)]; exact r1, by rw [same 1 (by omega) (by omega)]; exact r2, by rw [same 2 (by omega) (by omega)]; exact r3, n3.symm, (upd_eq _ _ _).symm, by rw [same 5 (by omega) (by omega)]; exact r6, by rw [same 7 (by omega) (by omega)]; exact r7, fun i hi => ?_, fun q hq => ?_, fun i hi => ?_⟩
  · rw [en] at hi
    unfold gH
    rw [same (44 + 4 * i) (by omega) (by omega), same (45 + 4 * i) (by omega) (by omega), same (46 + 4 * i) (by omega) (by omega), same (47 + 4 * i) (by omega) (by omega)]
    exact r8 i hi
  · rw [same (8 + q) (by omega) (by omega), same (20 + q) (by omega) (by omega), same (32 + q) (by omega) (by omega)]
    exact r9 q hq
  · rw [em] at hi
    rw [same (84 + 3 * i) (by omega) (by omega), same (85 + 3 * i) (by omega) (by omega), same (86 + 3 * i) (by omega) (by omega)]
    exact r10 i hi
end CREW
