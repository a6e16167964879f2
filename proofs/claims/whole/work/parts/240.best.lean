/-! the heaviest net; the reference's answers that tell a fault -/
section BEST
variable {B : Nat} {g : GS} {h h1 : PH} {a m k i j : Nat} {e : CS}
def mw (g : GS) : Option Nat → Nat
  | none => 0
  | some b => gW g (gZ g b)
def vb : Option Nat → Int32
  | none => -1
  | some b => w b
def bnt (g : GS) : Nat → Option Nat
  | 0 => none
  | k + 1 => if gW g (gZ g k) ≤ mw g (bnt g k) then bnt g k else some k
theorem bnt_lt : ∀ k b, bnt g k = some b → b < k ∧ gZ g b ≠ 0 := by
  intro k
  induction k with
  | zero => intro b hb; exact absurd hb (by simp [bnt])
  | succ k ih =>
    intro b hb
    unfold bnt at hb
    by_cases c : gW g (gZ g k) ≤ mw g (bnt g k)
    · rw [if_pos c] at hb
      obtain ⟨h1, h2⟩ := ih b hb
      exact ⟨by omega, h2⟩
    · rw [if_neg c] at hb
      have e : k = b := by simpa using hb
      rw [← e]
      refine ⟨by omega, fun z => c ?_⟩
      rw [z, gW_0]; exact Nat.zero_le _
theorem gZ_pos (O : Ok B g) {net : Nat} (h : gZ g net ≠ 0) : 0 < gW g (gZ g net) := by
  refine Nat.lt_of_not_le fun q => h ?_
  refine Nat.eq_of_testBit_eq fun k => ?_
  rw [Nat.zero_testBit]
  cases y : (gZ g net).testBit k
  · rfl
  · have kn : k < gN g := by
      have := gZ_sub y
      unfold gV at this
      rw [mk_bit] at this
      simp at this
      exact this.1
    have := gW_pos O kn y
    omega
theorem heaviestNet_ok (H : Sg B h a g) : f_X7_heaviestNet h a = some (vb (bnt g (gM g))) := by
  have O := H.ok
  have hm := O.m
  have L := cnt0 (fun fu k (b : Int32 × Int32) => f_X7_heaviestNet_L6 fu h a b.1 b.2 (w k)) (gM g) (fun k => (vb (bnt g k), w (mw g (bnt g k)))) (vb (bnt g (gM g))) (by omega) (fun fu k hk => by
    have zs := gZ_small O k
    have w1 := gW_le O (gZ g k)
    have w2 : mw g (bnt g k) ≤ 300 := by
      cases bnt g k with
      | none => exact Nat.zero_le _
      | some b => exact gW_le O _
    show f_X7_heaviestNet_L6 (fu + 1) h a (vb (bnt g k)) (w (mw g (bnt g k))) (w k) = f_X7_heaviestNet_L6 fu h a (vb (bnt g (k + 1))) (w (mw g (bnt g (k + 1)))) (w (k + 1))
    simp only [f_X7_heaviestNet_L6, H.i8, Option.bind_some, if_neg (is_lt hk (by omega)), H.gd, catchOf_ok H hk, weightOfAll_ok H (show gZ g k < 2147483648 by omega), w_le (show gW g (gZ g k) < 2147483648 by omega) (show mw g (bnt g k) < 2147483648 by omega), w_succ]
    by_cases c : gW g (gZ g k) ≤ mw g (bnt g k)
    · have e1 : bnt g (k + 1) = bnt g k := if_pos c
      rw [if_pos c, e1]
    · have e1 : bnt g (k + 1) = some k := if_neg c
      rw [if_neg c, e1]; rfl) (fun fu => by
    show f_X7_heaviestNet_L6 (fu + 1) h a _ _ (w (gM g)) = _
    simp only [f_X7_heaviestNet_L6, H.i8, Option.bind_some, if_pos is_ge])
  have L' : f_X7_heaviestNet_L6 FV h a (-1 : Int32) (0 : Int32) (0 : Int32) = some (vb (bnt g (gM g))) := L
  unfold f_X7_heaviestNet
  rw [L']; rfl
theorem mbest (H : Mg B h m g) : f_X10_bestNet_L4 FV h m (-1 : Int32) (0 : Int32) = some (vb (bnt g (gM g))) := by
  have O := H.ok
  have hm := O.m
  exact cnt0 (fun fu k (b : Int32) => f_X10_bestNet_L4 fu h m b (w k)) (gM g) (fun k => vb (bnt g k)) (vb (bnt g (gM g))) (by omega) (fun fu k hk => by
    have zs := gZ_small O k
    have w1 := gW_le O (gZ g k)
    have cz : (w (gZ g k) = (0 : Int32)) = (gZ g k = 0) := propext (w_inj (b := 0) (by omega) (by decide))
    have hv1 := mheavy H (S := gZ g k) (by omega)
    show f_X10_bestNet_L4 (fu + 1) h m (vb (bnt g k)) (w k) = f_X10_bestNet_L4 fu h m (vb (bnt g (k + 1))) (w (k + 1))
    simp only [f_X10_bestNet_L4, H.r0, H.n1, Option.bind_some, if_neg (is_lt hk (by omega)), H.gd, mcatches H hk, cz, hv1, w_succ]
    by_cases z0 : gZ g k = 0
    · have e1 : bnt g (k + 1) = bnt g k := if_pos (by rw [z0, gW_0]; exact Nat.zero_le _)
      rw [if_pos z0, e1]
    · have pos := gZ_pos O z0
      rw [if_neg z0]
      cases hb : bnt g k with
      | none =>
        have e1 : bnt g (k + 1) = some k := if_neg (by rw [hb]; show ¬ _ ≤ 0; omega)
        rw [if_pos (show vb none < 0 by decide), e1]; rfl
      | some b =>
        have bl := (bnt_lt k b hb).1
        have hv2 := mheavy H (S := gZ g b) (by have := gZ_small O b; omega)
        have w2 := gW_le O (gZ g b)
        have nb : ¬ vb (some b) < 0 := w_nonneg (by omega)
        have ec : f_X10_catches h m (vb (some b)) = some (w (gZ g b)) := mcatches H (by omega)
        rw [if_neg nb]
        simp only [ec, Option.bind_some, hv2, w_le (show gW g (gZ g k) < 2147483648 by omega) (show gW g (gZ g b) < 2147483648 by omega)]
        by_cases c : gW g (gZ g k) ≤ gW g (gZ g b)
        · have e1 : bnt g (k + 1) = some b := by
            rw [← hb]; exact if_pos (by rw [hb]; exact c)
          rw [if_pos c, e1]
        · have e1 : bnt g (k + 1) = some k := if_neg (by rw [hb]; exact c)
          rw [if_neg c, e1]; rfl) (fun fu => by
    show f_X10_bestNet_L4 (fu + 1) h m _ (w (gM g)) = _
    simp only [f_X10_bestNet_L4, H.r0, H.n1, Option.bind_some, if_pos is_ge])
/-- the reference's record: its answer's fault written, no denial -/
def eF (e : CS) (x : Int32) : CS := setR (setR e 8 fun _ => x) 7 fun _ => 0
theorem mfails (M : MoC h m e) (x : Int32) : ∃ h1, f_X10_fails h m x = some (!decide (x ≤ 0), h1) ∧ MoC h1 m (eF e x) ∧ fr (mW m) h h1 := by
  obtain ⟨h1, e1, M1, F1⟩ := M.w8 x
  obtain ⟨h2, e2, M2, F2⟩ := M1.w7 0
  refine ⟨h2, ?_, M2, F1.trans F2⟩
  unfold f_X10_fails
  simp only [e1, e2, Option.bind_some]
  by_cases c : x ≤ 0
  · rw [if_pos c, decide_eq_true c]; rfl
  · rw [if_neg c, decide_eq_false c]; rfl
theorem mfail0 (M : MoC h m e) : ∃ h1, f_X10_fails h m (0 : Int32) = some (false, h1) ∧ MoC h1 m (eF e 0) ∧ fr (mW m) h h1 := mfails M 0
theorem mfail1 (M : MoC h m e) : ∃ h1, f_X10_fails h m (1 : Int32) = some (true, h1) ∧ MoC h1 m (eF e 1) ∧ fr (mW m) h h1 := mfails M 1
theorem mfail2 (M : MoC h m e) : ∃ h1, f_X10_fails h m (2 : Int32) = some (true, h1) ∧ MoC h1 m (eF e 2) ∧ fr (mW m) h h1 := mfails M 2
/-- the reference's record behind a denial -/
def eDn (e : CS) (pl nu of : Int32) : CS := setR (setR (setR (setR (setR e 8 fun _ => pl) 7 fun _ => 1) 9 fun _ => nu) 10 fun _ => of) 11 fun _ => 0
end BEST
