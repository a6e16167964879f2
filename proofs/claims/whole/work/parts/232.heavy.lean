/-! the greatest weight by all sets: the class -/
section HEAVY
variable {B : Nat} {g : GS} {h h1 : PH} {a l k p : Nat} {f x : Nat → Int32}
theorem not_w {v H : Nat} (hv : v < 2147483648) : (w v &&& (w H ^^^ (-1 : Int32))) = w (v ^^^ (v &&& H)) := by
  apply Int32.toBitVec_inj.1
  show BitVec.ofNat 32 v &&& (BitVec.ofNat 32 H ^^^ 4294967295#32) = BitVec.ofNat 32 (v ^^^ (v &&& H))
  apply BitVec.eq_of_getLsbD_eq
  intro i hi
  have e1 : (4294967295#32).getLsbD i = true := by
    have : (4294967295#32) = BitVec.allOnes 32 := by decide
    rw [this, BitVec.getLsbD_allOnes]
    exact decide_eq_true hi
  rw [BitVec.getLsbD_and, BitVec.getLsbD_xor, e1]
  simp only [BitVec.getLsbD_ofNat, Nat.testBit_xor, Nat.testBit_and]
  cases v.testBit i <;> cases H.testBit i <;> simp [hi]
theorem xor_0 {a b : Nat} : a ^^^ b = 0 ↔ a = b := by
  constructor
  · intro z
    refine Nat.eq_of_testBit_eq fun j => ?_
    have : (a ^^^ b).testBit j = false := by rw [z, Nat.zero_testBit]
    rw [Nat.testBit_xor] at this
    exact xor_no this
  · rintro rfl; exact Nat.xor_self _
theorem sub_w {v H : Nat} (hv : v < 1024) : ((w v &&& (w H ^^^ (-1 : Int32))) = 0) = (v &&& H = v) := by
  rw [not_w (by omega)]
  have : v ^^^ (v &&& H) < 1024 := Nat.xor_lt_two_pow (n := 10) hv (Nat.lt_of_le_of_lt Nat.and_le_left hv)
  refine propext (((w_inj (b := 0) (by omega) (by decide)).trans xor_0).trans eq_comm)
theorem sm_pick {q n x : Nat} (h : q < n) : sm (fun p => if q = p then x else 0) n = x := by
  induction n with
  | zero => omega
  | succ n ih =>
    show sm (fun p => if q = p then x else 0) n + (if q = n then x else 0) = x
    by_cases e : q = n
    · subst e
      have : sm (fun p => if q = p then x else 0) q = sm (fun _ => 0) q := sm_ext fun k hk => if_neg (by omega)
      rw [this, if_pos rfl]
      have z : ∀ n, sm (fun _ => 0) n = 0 := fun n => by
        induction n with
        | zero => rfl
        | succ n ih => show sm (fun _ => 0) n + 0 = 0; rw [ih]
      rw [z]; omega
    · rw [ih (by omega), if_neg e]; omega
theorem gOn_bit (g : GS) (p S k : Nat) : (gOn g p S).testBit k = (decide (k < gN g) && (S.testBit k && gP g k == p)) := mk_bit _ _ _
theorem pages_sum (O : Ok B g) (S : Nat) : ∀ n, n ≤ gN g → sm (fun p => sw (gT g) n (gOn g p S)) 12 = sw (gT g) n S := by
  intro n
  induction n with
  | zero =>
    intro _
    rfl
  | succ n ih =>
    intro hn
    show sm (fun p => sw (gT g) n (gOn g p S) + (if (gOn g p S).testBit n then gT g n else 0)) 12 = sw (gT g) n S + (if S.testBit n then gT g n else 0)
    rw [sm_add, ih (by omega)]
    congr 1
    by_cases c : S.testBit n = true
    · rw [if_pos c]
      refine Eq.trans (sm_ext fun p _ => ?_) (sm_pick (x := gT g n) (O.note (k := n) (by omega)).2.1)
      have hn' : n < gN g := by omega
      rw [gOn_bit, c]
      by_cases d : gP g n = p
      · simp [d, hn']
      · simp [d]
    · rw [if_neg c]
      have : sm (fun p => if (gOn g p S).testBit n then gT g n else 0) 12 = sm (fun _ => 0) 12 := sm_ext fun p _ => by
        rw [gOn_bit]; simp [c]
      rw [this]; rfl
theorem sm_mono {f f' : Nat → Nat} {n : Nat} (h : ∀ k, k < n → f k ≤ f' k) : sm f n ≤ sm f' n := by
  induction n with
  | zero => exact Nat.le_refl _
  | succ n ih =>
    have h1 := ih fun k hk => h k (by omega)
    have h2 := h n (by omega)
    show sm f n + f n ≤ sm f' n + f' n
    omega
def Fit (g : GS) (S : Nat) : Prop := ∀ p, p < 12 → gW g (gOn g p S) ≤ gR g p
theorem gOn_gA (J : JB g) (O : Ok B g) (hp : p < 12) : gOn g p (gA g) = gJ g p := Nat.eq_of_testBit_eq fun k => by
  rw [gOn_bit]
  cases c : (gJ g p).testBit k
  · by_cases hk : k < gN g
    · by_cases d : gP g k = p
      · rw [gA_bit J O hk, d, c]; simp
      · simp [d]
    · simp [hk]
  · obtain ⟨h1, h2, h3⟩ := J.bit hp c
    rw [gA_bit J O h1, h3, c]; simp [h1]
theorem gA_fit (J : JB g) (O : Ok B g) : Fit g (gA g) := fun p hp => by
  rw [gOn_gA J O hp]; exact (J p hp).2.1
theorem gOn_sub {S T p : Nat} (h : S &&& T = S) : gOn g p S &&& gOn g p T = gOn g p S := by
  rw [sub_iff] at *
  intro j hj
  rw [gOn_bit] at *
  simp at hj ⊢
  exact ⟨hj.1, h j hj.2.1, hj.2.2⟩
theorem fit_le (J : JB g) (O : Ok B g) {S : Nat} (hS : S &&& gs g 1 = S) (F : Fit g S) : gW g S ≤ gW g (gA g) := by
  rw [gW_sw, gW_sw, ← pages_sum O S _ (Nat.le_refl _), ← pages_sum O (gA g) _ (Nat.le_refl _)]
  refine sm_mono fun p hp => ?_
  have := (J p hp).2.2 _ (gOn_sub hS) (F p hp)
  rw [gOn_gA J O hp]
  show gW g (gOn g p S) ≤ gW g (gJ g p)
  omega
theorem gA_sub (J : JB g) : gA g &&& gs g 1 = gA g := by
  rw [sub_iff]
  intro j hj
  have := gA_held J hj
  unfold gs
  rw [mk_bit]; simp [this.1, this.2]
theorem w_neg {a b : Nat} (ha : a < 1000000) (hb : b < 1000000) : ((0 : Int32) ≤ w a - w b) = (b ≤ a) := by
  apply propext
  have e : (w a - w b).toInt = (a : Int) - b := by
    have e1 : w a - w b = Int32.ofInt ((a : Int) - b) := by
      show Int32.ofNat a - Int32.ofNat b = _
      rw [← Int32.ofInt_eq_ofNat, ← Int32.ofInt_eq_ofNat, ← Int32.ofInt_sub]
    rw [e1, Int32.toInt_ofInt_of_le (by omega) (by omega)]
  rw [Int32.le_iff_toInt_le, e]
  have : (0 : Int32).toInt = 0 := by decide
  rw [this]; omega
theorem fit_rooms (H : Sg B h a g) (L : LaC h l f x) (hd : ∀ i, i ≤ 10 → ¬ laW l (a + i)) (S : Int32) : ∃ h1 x1, f_X6_fits_L2 FV h l a S (0 : Int32) = some h1 ∧ LaC h1 l f x1 ∧ (∀ p, p < 12 → x1 p = w (gR g p)) ∧ fr (laW l) h h1 := by
  obtain ⟨h1, e1, ⟨x1, L1, K1⟩, F1⟩ := sloop0 (fun fu k (q : PH) => f_X6_fits_L2 fu q l a S (w k)) id 12 (fun k q => (∃ x1, LaC q l f x1 ∧ ∀ p, p < k → x1 p = w (gR g p)) ∧ fr (laW l) h q) (by decide) (fun fu k q hk hI => by
    obtain ⟨⟨x1, L1, K1⟩, F1⟩ := hI
    have Hq := H.la F1 hd
    obtain ⟨q1, e1, L2, F2⟩ := L1.s1 (v := w (gR g k)) hk
    refine ⟨q1, ?_, ⟨_, L2, fun i hi => ?_⟩, F1.trans F2⟩
    · show f_X6_fits_L2 (fu + 1) q l a S (w k) = f_X6_fits_L2 fu q1 l a S (w (k + 1))
      simp only [f_X6_fits_L2, if_neg (show ¬ (12 : Int32) ≤ w k from is_lt (n := 12) hk (by decide)), L1.r1, Hq.gd, room_ok Hq hk, e1, Option.bind_some, w_succ]
    · by_cases c : i = k
      · rw [c, upd_eq]
      · rw [upd_ne c]; exact K1 i (by omega)) (fun fu q hI => by
    show f_X6_fits_L2 (fu + 1) q l a S (w 12) = some q
    simp only [f_X6_fits_L2, if_pos (show (12 : Int32) ≤ w 12 from is_ge)]) (k := 0) (s := h) (Nat.zero_le _) ⟨⟨x, L, fun i hi => by omega⟩, fr.refl _ _⟩
  exact ⟨h1, x1, e1, L1, K1, F1⟩
theorem sw_up {f : Nat → Nat} {n m S : Nat} (h : n ≤ m) : sw f n S ≤ sw f m S := by
  induction m with
  | zero =>
    have : n = 0 := by omega
    rw [this]; exact Nat.le_refl _
  | succ m ih =>
    by_cases c : n = m + 1
    · rw [c]; exact Nat.le_refl _
    · have := ih (by omega)
      show _ ≤ sw f m S + _
      omega
theorem fit_loop (H : Sg B h a g) {S : Nat} (hS : S < 1024) : ∀ fu k (q : PH) (x : Nat → Int32), k ≤ gN g → gN g - k < fu → LaC q l f x → (∀ i, i ≤ 10 → ¬ laW l (a + i)) → fr (laW l) h q → (∀ p, p < 12 → x p = w (gR g p - sw (gT g) k (gOn g p S)) ∧ sw (gT g) k (gOn g p S) ≤ gR g p) → ∃ q1 x1, LaC q1 l f x1 ∧ fr (laW l) h q1 ∧ ((f_X6_fits_L27 fu q l a (w S) (w k) = some (Sum.inr q1) ∧ Fit g S) ∨ (f_X6_fits_L27 fu q l a (w S) (w k) = some (Sum.inl (false, q1)) ∧ ¬ Fit g S)) := by
  have O := H.ok
  have hn := O.n
  intro fu
  induction fu with
  | zero => intro k q x h1 h2; omega
  | succ fu ih =>
    intro k q x h1 h2 L hd F I
    have Hq := H.la F hd
    by_cases e : k = gN g
    · subst e
      refine ⟨q, x, L, F, Or.inl ⟨?_, fun p hp => (I p hp).2⟩⟩
      simp only [f_X6_fits_L27, Hq.i0, Option.bind_some, if_pos is_ge]
    · have hk : k < gN g := by omega
      have hp := (O.note hk).2.1
      have es : ∀ p, sw (gT g) (k + 1) (gOn g p S) = sw (gT g) k (gOn g p S) + (if (gOn g p S).testBit k then gT g k else 0) := fun p => rfl
      simp only [f_X6_fits_L27, Hq.i0, Option.bind_some, if_neg (is_lt hk (by omega)), has_w (show S < 2147483648 by omega) (show k < 31 by omega), w_succ]
      by_cases c : S.testBit k = true
      · have ch : ¬ S.testBit k = false := by rw [c]; decide
        have hb : (gOn g (gP g k) S).testBit k = true := by rw [gOn_bit, c]; simp [hk]
        have ep := es (gP g k)
        rw [if_pos hb] at ep
        obtain ⟨i1, i2⟩ := I _ hp
        have rb := gR_le O hp
        have tb := (O.note hk).2.2.2.2.1
        obtain ⟨q1, e1, L1, F1⟩ := L.s1 (k := gP g k) (v := w (gR g (gP g k) - sw (gT g) k (gOn g (gP g k) S)) - w (gT g k)) hp
        have Hq1 := H.la (F.trans F1) hd
        simp only [if_neg ch, L.r1, Hq.r1, Hq.a1 hk, L.a1 hp, i1, Hq.r2, Hq.a2 hk, e1, L1.r1, Hq1.r1, Hq1.a1 hk, L1.a1 hp, upd_eq, Option.bind_some, w_neg (show gR g (gP g k) - sw (gT g) k (gOn g (gP g k) S) < 1000000 by omega) (show gT g k < 1000000 by omega)]
        by_cases d : gT g k ≤ gR g (gP g k) - sw (gT g) k (gOn g (gP g k) S)
        · simp only [if_pos d]
          refine ih (k + 1) q1 _ (by omega) (by omega) L1 hd (F.trans F1) fun p' hp' => ?_
          by_cases z : p' = gP g k
          · rw [z, upd_eq, ep, w_sub d]
            exact ⟨by congr 1; omega, by omega⟩
          · have hb' : ¬ (gOn g p' S).testBit k = true := fun y => z (by
              rw [gOn_bit] at y
              simp at y
              exact y.2.2.symm)
            have ep' := es p'
            rw [if_neg hb', Nat.add_zero] at ep'
            rw [upd_ne z, ep']
            exact I p' hp'
        · simp only [if_neg d]
          refine ⟨q1, _, L1, F.trans F1, Or.inr ⟨rfl, fun y => ?_⟩⟩
          have y1 : sw (gT g) (gN g) (gOn g (gP g k) S) ≤ gR g (gP g k) := y _ hp
          have y2 := sw_up (f := gT g) (S := gOn g (gP g k) S) (show k + 1 ≤ gN g by omega)
          omega
      · have c' : S.testBit k = false := by simpa using c
        simp only [if_pos c']
        refine ih (k + 1) q x (by omega) (by omega) L hd F fun p' hp' => ?_
        have hb' : ¬ (gOn g p' S).testBit k = true := fun y => by
          rw [gOn_bit, c'] at y
          simp at y
        have ep' := es p'
        rw [if_neg hb', Nat.add_zero] at ep'
        rw [ep']
        exact I p' hp'
theorem fits_ok (H : Sg B h a g) (L : LaC h l f x) (hd : ∀ i, i ≤ 10 → ¬ laW l (a + i)) {S : Nat} (hS : S < 1024) : ∃ h1 x1 b, f_X6_fits h l a (w S) = some (b, h1) ∧ LaC h1 l f x1 ∧ fr (laW l) h h1 ∧ (b = true ↔ Fit g S) := by
  obtain ⟨h1, x1, e1, L1, K1, F1⟩ := fit_rooms H L hd (w S)
  have H1 := H.la F1 hd
  have z : ∀ p, sw (gT g) 0 (gOn g p S) = 0 := fun _ => rfl
  obtain ⟨h2, x2, L2, F2, q⟩ := fit_loop H hS FV 0 h1 x1 (Nat.zero_le _) (by rw [FV_eq]; have := H.ok.n; omega) L1 hd F1 (fun p hp => ⟨by rw [K1 p hp, z]; rfl, by rw [z]; omega⟩)
  have e0 : w 0 = (0 : Int32) := rfl
  rw [e0] at q
  rcases q with ⟨q, r⟩ | ⟨q, r⟩
  · refine ⟨h2, x2, true, ?_, L2, F2, by simp [r]⟩
    unfold f_X6_fits
    simp only [e1, q, Option.bind_some, Sum.elim_inr]
  · refine ⟨h2, x2, false, ?_, L2, F2, by simp [r]⟩
    unfold f_X6_fits
    simp only [e1, q, Option.bind_some, Sum.elim_inl]
theorem heaviestSet_ok (H : Sg B h a g) (L : LaC h l f x) (J : JB g) (hd : ∀ i, i ≤ 10 → ¬ laW l (a + i)) : ∃ h1 x1, f_X6_heaviestSet h l a = some (w (gW g (gA g)), h1) ∧ LaC h1 l f x1 ∧ fr (laW l) h h1 := by
  have O := H.ok
  have hn := O.n
  have hg := gs_lt O 1
  have so := setOf_ok H (c := 104) (i := 1) (fun n hn => wc_1 hn)
  have wA := gW_le O (gA g)
  obtain ⟨⟨h1, c1⟩, e1, ⟨x1, L1⟩, ⟨M, E1, M1, M2⟩, F1⟩ := sloop0 (fun fu k (q : PH × Int32) => f_X6_heaviestSet_L12 fu q.1 l a (w (gs g 1)) q.2 (w k)) (fun q => (q.2, q.1)) (gs g 1 + 1) (fun k q => (∃ x1, LaC q.1 l f x1) ∧ (∃ M, q.2 = w M ∧ M ≤ gW g (gA g) ∧ ∀ S, S < k → S &&& gs g 1 = S → Fit g S → gW g S ≤ M) ∧ fr (laW l) h q.1) (by omega) (fun fu k q hk hI => by
    obtain ⟨⟨x1, L1⟩, ⟨M, E1, M1, M2⟩, F1⟩ := hI
    have Hq := H.la F1 hd
    have c0 : ¬ w (gs g 1) < w k := fun y => by
      have := (w_lt (by omega) (by omega)).mp y
      omega
    by_cases c : k &&& gs g 1 = k
    · have cw : ¬ ¬ (w k &&& (w (gs g 1) ^^^ (-1 : Int32))) = 0 := fun y => y (by rw [sub_w (by omega)]; exact c)
      obtain ⟨h2, x2, b, e2, L2, F2, hb⟩ := fits_ok Hq L1 hd (S := k) (by omega)
      have H2 := Hq.la F2 hd
      have wk := gW_le O k
      cases b with
      | false =>
        refine ⟨(h2, q.2), ?_, ⟨x2, L2⟩, ⟨M, E1, M1, fun S hS s1 s2 => ?_⟩, F1.trans F2⟩
        · show f_X6_heaviestSet_L12 (fu + 1) q.1 l a (w (gs g 1)) q.2 (w k) = f_X6_heaviestSet_L12 fu h2 l a (w (gs g 1)) q.2 (w (k + 1))
          simp only [f_X6_heaviestSet_L12, if_neg c0, if_neg cw, L1.gd, e2, Option.bind_some, if_true, w_succ]
        · by_cases z : S = k
          · rw [z] at s2
            exact absurd (hb.mpr s2) (by decide)
          · exact M2 S (by omega) s1 s2
      | true =>
        have fk := hb.mp rfl
        refine ⟨(h2, w (max M (gW g k))), ?_, ⟨x2, L2⟩, ⟨_, rfl, ?_, fun S hS s1 s2 => ?_⟩, F1.trans F2⟩
        · have tf : ¬ (true = false) := by decide
          show f_X6_heaviestSet_L12 (fu + 1) q.1 l a (w (gs g 1)) q.2 (w k) = f_X6_heaviestSet_L12 fu h2 l a (w (gs g 1)) (w (max M (gW g k))) (w (k + 1))
          simp only [f_X6_heaviestSet_L12, if_neg c0, if_neg cw, L1.gd, e2, Option.bind_some, if_neg tf, H2.gd, weightOfAll_ok H2 (show k < 2147483648 by omega), w_succ]
          rw [E1, max_ww (by omega) (by omega)]
        · have := fit_le J O c fk
          omega
        · by_cases z : S = k
          · rw [z]; omega
          · have := M2 S (by omega) s1 s2
            omega
    · have cw : ¬ (w k &&& (w (gs g 1) ^^^ (-1 : Int32))) = 0 := fun y => c (by rw [sub_w (by omega)] at y; exact y)
      refine ⟨q, ?_, ⟨x1, L1⟩, ⟨M, E1, M1, fun S hS s1 s2 => ?_⟩, F1⟩
      · show f_X6_heaviestSet_L12 (fu + 1) q.1 l a (w (gs g 1)) q.2 (w k) = f_X6_heaviestSet_L12 fu q.1 l a (w (gs g 1)) q.2 (w (k + 1))
        simp only [f_X6_heaviestSet_L12, if_neg c0, w_succ]
        rw [if_pos cw]
      · by_cases z : S = k
        · rw [z] at s1; exact absurd s1 c
        · exact M2 S (by omega) s1 s2) (fun fu q hI => by
    have c0 : w (gs g 1) < w (gs g 1 + 1) := (w_lt (by omega) (by omega)).mpr (by omega)
    show f_X6_heaviestSet_L12 (fu + 1) q.1 l a (w (gs g 1)) q.2 (w (gs g 1 + 1)) = some (q.2, q.1)
    simp only [f_X6_heaviestSet_L12, if_pos c0]) (k := 1) (s := (h, w 0)) (by omega) ⟨⟨x, L⟩, ⟨0, rfl, Nat.zero_le _, fun S hS _ _ => by
      have : S = 0 := by omega
      rw [this, gW_0]; exact Nat.le_refl _⟩, fr.refl _ _⟩
  have e1' : f_X6_heaviestSet_L12 FV h l a (w (gs g 1)) (0 : Int32) (1 : Int32) = some (c1, h1) := e1
  have E1 : c1 = w M := E1
  have eM : M = gW g (gA g) := by
    have := sub_le (gA_sub J)
    have := M2 (gA g) (by omega) (gA_sub J) (gA_fit J O)
    omega
  refine ⟨h1, x1, ?_, L1, F1⟩
  unfold f_X6_heaviestSet
  simp only [H.gd, Option.bind_some, so, e1', E1, eM]
end HEAVY
