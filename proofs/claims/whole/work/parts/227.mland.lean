/-! which held notes are landed: the reference -/
section MLAND
variable {B : Nat} {g : GS} {h : PH} {a m k p : Nat} {s e : CS}
theorem and_low {S l : Nat} : (S &&& 2 ^ l = 0) ↔ S.testBit l = false := by
  constructor
  · intro z
    have : (S &&& 2 ^ l).testBit l = false := by rw [z, Nat.zero_testBit]
    rw [Nat.testBit_and, Nat.testBit_two_pow] at this
    simpa using this
  · intro z
    refine Nat.eq_of_testBit_eq fun j => ?_
    rw [Nat.testBit_and, Nat.testBit_two_pow, Nat.zero_testBit]
    by_cases q : l = j
    · subst q; rw [z]; rfl
    · simp [q]
theorem low_w {S b : Nat} (hS : S < 1024) (hb : b < 1024) (hne : S ≠ b) : (((w S &&& (w S ^^^ w b)) &&& (-(w S ^^^ w b))) = 0) = (S.testBit (lo (S ^^^ b)) = false) := by
  have hx : S ^^^ b < 1024 := Nat.xor_lt_two_pow (n := 10) hS hb
  have hx0 : S ^^^ b ≠ 0 := fun z => hne (by
    refine Nat.eq_of_testBit_eq fun j => ?_
    have : (S ^^^ b).testBit j = false := by rw [z, Nat.zero_testBit]
    rw [Nat.testBit_xor] at this
    exact xor_no this)
  obtain ⟨l1, l2, l3⟩ := lo_fact _ hx hx0
  have hs : S &&& 2 ^ lo (S ^^^ b) < 1024 := Nat.lt_of_le_of_lt Nat.and_le_left hS
  rw [w_xor, Int32.and_assoc, l3, w_and]
  refine propext ((w_inj (b := 0) (by omega) (by decide)).trans and_low)
theorem mchoose_loop (H : Mg B h m g) (hp : p < 12) {C : Nat} (hC : C < 1024) : ∀ fu S b, S < fu → S &&& C = S → b &&& C = b → gW g b ≤ gR g p → (∀ T, T &&& C = T → gW g T ≤ gR g p → S < T ∨ T = 0 → gW g T < gW g b ∨ (gW g T = gW g b ∧ rv T ≤ rv b)) → ∃ b', f_X10_choose_L16 fu h m (w p) (w C) (w b) (w S) = some (w b') ∧ Bst g C (gR g p) b' := by
  intro fu
  induction fu with
  | zero => intro S b h0; omega
  | succ fu ih =>
    intro S b h0 hS hb hR hI
    have lS := sub_le hS
    have lb := sub_le hb
    by_cases z : S = 0
    · subst z
      refine ⟨b, ?_, hb, hR, fun T h1 h2 => hI T h1 h2 (by omega)⟩
      simp only [f_X10_choose_L16, if_pos (show w 0 ≤ 0 from Int32.le_refl _)]
    · have c0 : ¬ w S ≤ 0 := fun q => z (by
        have := (w_le (a := S) (b := 0) (by omega) (by decide)).mp q
        omega)
      have r1 := mroom H hp
      have hv1 := mheavy H (S := S) (by omega)
      have hv2 := mheavy H (S := b) (by omega)
      have b1 := gW_le H.ok S
      have b2 := gW_le H.ok b
      have rr : gR g p < 2147483648 := by
        have := (H.ok.page hp).2.2.1
        unfold gR
        split <;> omega
      have nx : (w S - (1 : Int32)) &&& w C = w ((S - 1) &&& C) := by
        rw [show w S - (1 : Int32) = w (S - 1) from w_sub (b := 1) (by omega), w_and]
      have lt1 : (S - 1) &&& C < S := Nat.lt_of_le_of_lt Nat.and_le_left (by omega)
      have sub1 : ((S - 1) &&& C) &&& C = (S - 1) &&& C := by rw [Nat.and_assoc, Nat.and_self]
      have keep : (gW g S ≤ gR g p → gW g S < gW g b ∨ (gW g S = gW g b ∧ rv S ≤ rv b)) → ∃ b', f_X10_choose_L16 fu h m (w p) (w C) (w b) (w ((S - 1) &&& C)) = some (w b') ∧ Bst g C (gR g p) b' := fun q => ih _ b (by omega) sub1 hb hR (fun T h1 h2 h3 => by
        by_cases e : T = S
        · subst e; exact q h2
        · by_cases e2 : S < T ∨ T = 0
          · exact hI T h1 h2 e2
          · have := next_sub S C T hS h1 (by omega)
            omega)
      have take : gW g S ≤ gR g p → (gW g b < gW g S ∨ (gW g b = gW g S ∧ rv b ≤ rv S)) → ∃ b', f_X10_choose_L16 fu h m (w p) (w C) (w S) (w ((S - 1) &&& C)) = some (w b') ∧ Bst g C (gR g p) b' := fun q0 q => ih _ S (by omega) sub1 hS q0 (fun T h1 h2 h3 => by
        by_cases e : T = S
        · subst e; exact Or.inr ⟨rfl, Nat.le_refl _⟩
        · by_cases e2 : S < T ∨ T = 0
          · have := hI T h1 h2 e2
            omega
          · have := next_sub S C T hS h1 (by omega)
            omega)
      simp only [f_X10_choose_L16, if_neg c0, H.gd, Option.bind_some, hv1, hv2, r1, nx, w_lt (show gR g p < 2147483648 from rr) (show gW g S < 2147483648 by omega), w_le (show gW g b < 2147483648 by omega) (show gW g S < 2147483648 by omega), w_lt (show gW g b < 2147483648 by omega) (show gW g S < 2147483648 by omega)]
      by_cases c1 : gR g p < gW g S
      · rw [if_pos c1]
        exact keep fun q => by omega
      · rw [if_neg c1]
        by_cases c2 : gW g b ≤ gW g S
        · rw [if_pos c2]
          by_cases c3 : gW g b < gW g S
          · rw [if_pos c3]
            exact take (by omega) (Or.inl c3)
          · rw [if_neg c3]
            by_cases e : S = b
            · have : ((w S &&& (w S ^^^ w b)) &&& (-(w S ^^^ w b))) = 0 := by
                rw [e, Int32.xor_self, Int32.and_zero]
                rfl
              rw [if_pos this]
              exact keep fun _ => Or.inr ⟨by rw [e], by rw [e]; exact Nat.le_refl _⟩
            · simp only [low_w (show S < 1024 by omega) (show b < 1024 by omega) e]
              by_cases c4 : S.testBit (lo (S ^^^ b)) = false
              · rw [if_pos c4]
                refine keep fun _ => Or.inr ⟨by omega, Nat.le_of_lt (rv_less (by omega) (by omega) e ?_)⟩
                have hx : S ^^^ b < 1024 := Nat.xor_lt_two_pow (n := 10) (show S < 2 ^ 10 by omega) (show b < 2 ^ 10 by omega)
                have hx0 : S ^^^ b ≠ 0 := fun z => e (by
                  refine Nat.eq_of_testBit_eq fun j => ?_
                  have : (S ^^^ b).testBit j = false := by rw [z, Nat.zero_testBit]
                  rw [Nat.testBit_xor] at this
                  exact xor_no this)
                have l2 := (lo_fact _ hx hx0).2.1
                rw [Nat.testBit_xor, c4] at l2
                simpa using l2
              · rw [if_neg c4]
                refine take (by omega) (Or.inr ⟨by omega, Nat.le_of_lt (rv_less (by omega) (by omega) (Ne.symm e) ?_)⟩)
                rw [Nat.xor_comm]
                simpa using c4
        · rw [if_neg c2]
          exact keep fun q => by omega
theorem mchoose (H : Mg B h m g) (hp : p < 12) : f_X10_choose h m (w p) = some (w (gJ g p)) ∧ Bst g (gOn g p (gs g 1)) (gR g p) (gJ g p) := by
  have hn := H.ok.n
  have hg := gs_lt H.ok 1
  have hC := gOn_lt hn p (gs g 1)
  obtain ⟨b, e1, D⟩ := mchoose_loop H hp hC FV (gOn g p (gs g 1)) 0 (by rw [FV_eq]; omega) (Nat.and_self _) (Nat.zero_and _) (by rw [gW_0]; exact Nat.zero_le _) (fun T h1 _ h3 => by
    have := sub_le h1
    have e0 : T = 0 := by omega
    subst e0
    exact Or.inr ⟨rfl, Nat.le_refl _⟩)
  have ej := gJ_of hn D
  have th := mthose H (c := 1) (by decide)
  have op := monPage H hp (S := gs g 1) (by omega)
  refine ⟨?_, by rw [ej]; exact D⟩
  unfold f_X10_choose
  have th' : f_X10_those h m (1 : Int32) = some (w (gs g 1)) := th
  have e1' : f_X10_choose_L16 FV h m (w p) (w (gOn g p (gs g 1))) (0 : Int32) (w (gOn g p (gs g 1))) = some (w b) := e1
  simp only [H.gd, Option.bind_some, th', op, e1']
  rw [ej]
/-- the notes that would be landed -/
noncomputable def gA (g : GS) : Nat := ors (gJ g) 12
theorem mlanding (H : Mg B h m g) : f_X10_landing h m = some (w (gA g)) := by
  have L := ors_loop (fun fu k b => f_X10_landing_L4 fu h m b (w k)) 12 (gJ g) (by decide) (fun fu k b hk => by
    show f_X10_landing_L4 (fu + 1) h m b (w k) = f_X10_landing_L4 fu h m (b ||| w (gJ g k)) (w (k + 1))
    simp only [f_X10_landing_L4, if_neg (show ¬ (12 : Int32) ≤ w k from is_lt (n := 12) hk (by decide)), H.gd, Option.bind_some, (mchoose H hk).1, w_succ]) (fun fu b => by
    show f_X10_landing_L4 (fu + 1) h m b (w 12) = some b
    simp only [f_X10_landing_L4, if_pos (show (12 : Int32) ≤ w 12 from is_ge)])
  unfold f_X10_landing
  show (f_X10_landing_L4 FV h m (w 0) (w 0)).bind _ = _
  rw [L]
  rfl
end MLAND
