/-! the reference's record: denials, what it keeps for undoing -/
section KEEP
variable {B : Nat} {g : GS} {h h1 : PH} {a m k i j c : Nat} {e : CS} {K : Nat → GS} {f : Nat → Int32}
theorem mdenies (M : MoC h m e) (pl nu of : Int32) : ∃ h1, f_X10_denies h m pl nu of = some (0, h1) ∧ MoC h1 m (eDn e pl nu of) ∧ fr (mW m) h h1 := by
  obtain ⟨x1, e1, M1, F1⟩ := M.w8 pl
  obtain ⟨x2, e2, M2, F2⟩ := M1.w7 1
  obtain ⟨x3, e3, M3, F3⟩ := M2.w9 nu
  obtain ⟨x4, e4, M4, F4⟩ := M3.w10 of
  obtain ⟨x5, e5, M5, F5⟩ := M4.w11 0
  refine ⟨x5, ?_, M5, (((F1.trans F2).trans F3).trans F4).trans F5⟩
  unfold f_X10_denies
  simp only [e1, e2, e3, e4, e5, Option.bind_some]
theorem up_same {d : Nat} {x : PC} (hx : h.2 d = x) : (h.1, z_up h.2 d x) = h := by
  have : z_up h.2 d x = h.2 := by
    funext i
    by_cases y : i = d
    · rw [y, z_up_s, hx]
    · rw [z_up_n _ _ y]
  rw [this]
theorem copies_ok {s d N1 N2 a0 on : Nat} {f f2 : Nat → Int32} (hs : h.2 s = .inl (.int, N1, .inl f)) (hd : h.2 d = .inl (.int, N2, .inl f2)) (hsd : s ≠ d) (hk : kK ≤ d) (h1 : a0 + 99 ≤ N1) (h2 : on + 99 ≤ N2) (l1 : N1 ≤ 1000) (l2 : N2 ≤ 1000) : ∃ f3, f_X10_copies h s (w a0) d (w on) = some (h.1, z_up h.2 d (.inl (.int, N2, .inl f3))) ∧ (∀ k, k < 99 → f3 (on + k) = f (a0 + k)) ∧ ∀ i, (i < on ∨ on + 99 ≤ i) → f3 i = f2 i := by
  obtain ⟨q, e1, f3, E3, K3, R3⟩ := sloop0 (fun fu k (q : PH) => f_X10_copies_L3 fu q s (w a0) d (w on) (w k)) id 99 (fun k q => ∃ f3, q = (h.1, z_up h.2 d (.inl (.int, N2, .inl f3))) ∧ (∀ x, x < k → f3 (on + x) = f (a0 + x)) ∧ ∀ i, (i < on ∨ on + k ≤ i) → f3 i = f2 i) (by decide) (fun fu k q hk' hI => by
    obtain ⟨f3, E3, K3, R3⟩ := hI
    have q1 : q.2 s = .inl (.int, N1, .inl f) := by rw [E3]; exact (z_up_n _ _ hsd).trans hs
    have q2 : q.2 d = .inl (.int, N2, .inl f3) := by rw [E3]; exact z_up_s _ _ _
    have r1 := alI_of (k := a0 + k) q1 (by omega) (by omega)
    have r2 := asI_of (k := on + k) (x := f (a0 + k)) hk q2 (by omega) (by omega)
    refine ⟨(h.1, z_up h.2 d (.inl (.int, N2, .inl (upd f3 (on + k) (f (a0 + k)))))), ?_, _, rfl, fun x hx => ?_, fun i hi => ?_⟩
    · have e2 : (q.1, z_up q.2 d (.inl (.int, N2, .inl (upd f3 (on + k) (vp_nar .int (f (a0 + k))))))) = (h.1, z_up h.2 d (.inl (.int, N2, .inl (upd f3 (on + k) (f (a0 + k)))))) := by
        rw [E3]
        show (h.1, z_up (z_up h.2 d _) d _) = _
        rw [z_up_up]; rfl
      rw [e2] at r2
      show f_X10_copies_L3 (fu + 1) q s (w a0) d (w on) (w k) = f_X10_copies_L3 fu _ s (w a0) d (w on) (w (k + 1))
      simp only [f_X10_copies_L3, if_neg (show ¬ (99 : Int32) ≤ w k from lt_199 (n := 99) hk' (by decide)), w_add, r1, r2, Option.bind_some, w_succ]
    · by_cases y : x = k
      · rw [y, upd_eq]
      · rw [upd_ne (by omega)]; exact K3 x (by omega)
    · rw [upd_ne (by omega)]; exact R3 i (by omega)) (fun fu q hI => by
    show f_X10_copies_L3 (fu + 1) q s (w a0) d (w on) (w 99) = some q
    simp only [f_X10_copies_L3, if_pos (show (99 : Int32) ≤ w 99 from is_ge)]) (k := 0) (s := h) (Nat.zero_le _) ⟨f2, (up_same hd).symm, fun x hx => by omega, fun i _ => rfl⟩
  have e1' : f_X10_copies_L3 FV h s (w a0) d (w on) (0 : Int32) = some q := e1
  refine ⟨f3, ?_, K3, R3⟩
  unfold f_X10_copies
  rw [e1', E3]; rfl
/-- the rows kept for undoing: K 0 .. K (c - 1) -/
def Kp (e : CS) (K : Nat → GS) (c : Nat) : Prop := c ≤ 8 ∧ e 5 0 = w c ∧ ∀ i, i < c → ∀ k, k < 99 → e 1 (99 * i + k) = K i k
def Kn (K : Nat → GS) (c : Nat) (g : GS) : Nat → GS := fun i => if c = 8 then (if i = 7 then g else K (i + 1)) else if i = c then g else K i
theorem mshift (M : MoC h m e) (r : Nat) : ∃ h1 f1, f_X10_keeps_L24 FV h m r (0 : Int32) = some h1 ∧ MoC h1 m (setR e 1 f1) ∧ (∀ i, i < 693 → f1 i = e 1 (i + 99)) ∧ fr (mW m) h h1 := by
  obtain ⟨h1, e1, ⟨f1, M1, K1⟩, F1⟩ := sloop0 (fun fu k (q : PH) => f_X10_keeps_L24 fu q m r (w k)) id 693 (fun k q => (∃ f1, MoC q m (setR e 1 f1) ∧ ∀ i, f1 i = if i < k then e 1 (i + 99) else e 1 i) ∧ fr (mW m) h q) (by decide) (fun fu k q hk hI => by
    obtain ⟨⟨f1, M1, K1⟩, F1⟩ := hI
    have r1 := M1.a1 (k := k + 99) (by omega)
    rw [setR_0] at r1
    obtain ⟨q1, e1, M2, F2⟩ := M1.s1 (k := k) (f1 (k + 99)) (by omega)
    rw [setR_0, setR_2] at M2
    refine ⟨q1, ?_, ⟨_, M2, fun i => ?_⟩, F1.trans F2⟩
    · have ek : w k + (99 : Int32) = w (k + 99) := w_add k 99
      show f_X10_keeps_L24 (fu + 1) q m r (w k) = f_X10_keeps_L24 fu q1 m r (w (k + 1))
      simp only [f_X10_keeps_L24, if_neg (show ¬ (693 : Int32) ≤ w k from lt_199 (n := 693) hk (by decide)), M1.r1, ek, r1, e1, Option.bind_some, w_succ]
    · by_cases y : i = k
      · rw [y, upd_eq, if_pos (by omega), K1, if_neg (by omega)]
      · rw [upd_ne y, K1]
        by_cases z : i < k
        · rw [if_pos z, if_pos (by omega)]
        · rw [if_neg z, if_neg (by omega)]) (fun fu q hI => by
    show f_X10_keeps_L24 (fu + 1) q m r (w 693) = some q
    simp only [f_X10_keeps_L24, if_pos (show (693 : Int32) ≤ w 693 from is_ge)]) (k := 0) (s := h) (Nat.zero_le _) ⟨⟨e 1, by rw [setR_id]; exact M, fun i => by rw [if_neg (by omega)]⟩, fr.refl _ _⟩
  exact ⟨h1, f1, e1, M1, fun i hi => by rw [K1, if_pos hi], F1⟩
theorem mkeep1 {r : Nat} {g : GS} (M : MoC h m e) (hc : c < 8) (h5 : e 5 0 = w c) (hr : h.2 r = .inl (.int, 99, .inl g)) (hm : r ≠ m + 2) : ∃ h1 f1, f_X10_keeps_J62 h m r = some h1 ∧ MoC h1 m (setR (setR e 1 f1) 5 fun _ => w (c + 1)) ∧ (∀ k, k < 99 → f1 (99 * c + k) = g k) ∧ (∀ i, (i < 99 * c ∨ 99 * c + 99 ≤ i) → f1 i = e 1 i) ∧ fr (mW m) h h1 := by
  obtain ⟨f3, e1, K3, R3⟩ := copies_ok (a0 := 0) (on := 99 * c) hr M.c1 hm (Nat.le_trans M.kK (Nat.le_add_right _ _)) (by omega) (by omega) (by decide) (by decide)
  have M1 := M.row1 f3
  have F1 : fr (mW m) h (h.1, z_up h.2 (m + 2) (.inl (.int, 792, .inl f3))) := fr.up ⟨by omega, by omega⟩
  generalize (h.1, z_up h.2 (m + 2) (.inl (.int, 792, .inl f3))) = x1 at *
  have i5 : rdI x1 m 12 5 = some (w c) := by rw [M1.i5]; exact congrArg some h5
  obtain ⟨x2, e2, M2, F2⟩ := M1.w5 (w (c + 1))
  refine ⟨x2, f3, ?_, M2, fun k hk => by rw [K3 k hk, Nat.zero_add], R3, F1.trans F2⟩
  have e1' : f_X10_copies h r (0 : Int32) (m + 2) ((99 : Int32) * w c) = some x1 := by
    have : (99 : Int32) * w c = w (99 * c) := w_mul 99 c
    rw [this]; exact e1
  unfold f_X10_keeps_J62
  simp only [M.r1, M.i5, h5, e1', i5, w_succ, e2, Option.bind_some]
theorem mkeeps {r : Nat} {g : GS} (M : MoC h m e) (h6 : e 6 0 = 0) (A : Kp e K c) (hm : r ≠ m + 2) (hr : ∀ (h' : PH) (e' : CS), MoC h' m e' → (∀ j, j = 0 ∨ j = 3 → e' j = e j) → h'.2 r = .inl (.int, 99, .inl g)) : ∃ h1 f1, f_X10_keeps h m r = some h1 ∧ MoC h1 m (setR (setR (setR e 8 fun _ => 0) 1 f1) 5 fun _ => w (min (c + 1) 8)) ∧ (∀ i, i < min (c + 1) 8 → ∀ k, k < 99 → f1 (99 * i + k) = Kn K c g i k) ∧ fr (mW m) h h1 := by
  obtain ⟨x1, e1, M1, F1⟩ := M.w8 0
  have i6 : rdI x1 m 12 6 = some 0 := by rw [M1.i6]; exact congrArg some h6
  have i5 : rdI x1 m 12 5 = some (w c) := by rw [M1.i5]; exact congrArg some A.2.1
  have c8 := A.1
  have e8 : (w c = (8 : Int32)) = (c = 8) := propext (w_inj (b := 8) (by omega) (by decide))
  unfold f_X10_keeps
  simp only [e1, i6, i5, Option.bind_some, if_true, e8]
  by_cases y : c = 8
  · rw [if_neg (fun q => q y)]
    subst y
    obtain ⟨x2, f1, e2, M2, K2, F2⟩ := mshift M1 r
    obtain ⟨x3, e3, M3, F3⟩ := M2.w5 (w 7)
    have i5' : rdI x2 m 12 5 = some (w 8) := by rw [M2.i5]; exact congrArg some A.2.1
    have r3 := hr x3 _ M3 (fun j hj => by
      rcases hj with rfl | rfl
      · rfl
      · rfl)
    obtain ⟨x4, f4, e4, M4, K4, R4, F4⟩ := mkeep1 M3 (c := 7) (by decide) rfl r3 hm
    refine ⟨x4, f4, ?_, ?_, fun i hi k hk => ?_, ((F1.trans F2).trans F3).trans F4⟩
    · have e78 : w 8 - (1 : Int32) = w 7 := w_sub (a := 8) (b := 1) (by decide)
      simp only [e2, i5', e78, e3, e4, Option.bind_some]
    · have : setR (setR (setR (setR (setR e 8 fun _ => 0) 1 f1) 5 fun _ => w 7) 1 f4) 5 (fun _ => w (7 + 1)) = setR (setR (setR e 8 fun _ => 0) 1 f4) 5 (fun _ => w (min (8 + 1) 8)) := by
        funext q
        unfold setR
        by_cases q5 : q = 5
        · simp only [if_pos q5]; rfl
        · simp only [if_neg q5]
          by_cases q1 : q = 1
          · simp only [if_pos q1]
          · simp only [if_neg q1]
      rw [this] at M4
      exact M4
    · unfold Kn
      rw [if_pos rfl]
      by_cases z : i = 7
      · rw [if_pos z, z]; exact K4 k hk
      · rw [if_neg z, R4 _ (by omega)]
        show f1 (99 * i + k) = _
        rw [K2 _ (by omega)]
        have := A.2.2 (i + 1) (by omega) k hk
        rw [← this]
        show e 1 (99 * i + k + 99) = e 1 (99 * (i + 1) + k)
        congr 1; omega
  · rw [if_pos y]
    have r1 := hr x1 _ M1 (fun j hj => by
      rcases hj with rfl | rfl
      · rfl
      · rfl)
    obtain ⟨x4, f4, e4, M4, K4, R4, F4⟩ := mkeep1 M1 (c := c) (by omega) A.2.1 r1 hm
    refine ⟨x4, f4, e4, by rw [Nat.min_eq_left (by omega)]; exact M4, fun i hi k hk => ?_, F1.trans F4⟩
    unfold Kn
    rw [if_neg y]
    by_cases z : i = c
    · rw [if_pos z, z]; exact K4 k hk
    · rw [if_neg z, R4 _ (by omega)]
      exact A.2.2 i (by omega) k hk
/-- inside an execution nothing is kept -/
theorem mkeeps_in {r : Nat} (M : MoC h m e) (h6 : e 6 0 = 1) : ∃ h1, f_X10_keeps h m r = some h1 ∧ MoC h1 m (setR e 8 fun _ => 0) ∧ fr (mW m) h h1 := by
  obtain ⟨x1, e1, M1, F1⟩ := M.w8 0
  have i6 : rdI x1 m 12 6 = some 1 := by rw [M1.i6]; exact congrArg some h6
  refine ⟨x1, ?_, M1, F1⟩
  unfold f_X10_keeps
  simp only [e1, i6, Option.bind_some, if_neg (show ¬ (1 : Int32) = 0 by decide)]
end KEEP
