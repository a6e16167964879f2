/-! the reference lets go -/
section MFREE
variable {B : Nat} {h h1 : PH} {m c : Nat} {e e1 : CS} {K : Nat → GS} {x y z : Int32}
theorem mlandno (O : Ok B (e 0)) (M : MoC h m e) (q : gc (e 0) 1 = 0) : ∃ h1, f_X10_land h m = some (0, h1) ∧ MoC h1 m (eDn e 1 7 (w (gc (e 0) 0))) ∧ fr (mW m) h h1 := by
  have H : Mg B h m (e 0) := ⟨O, e, M, rfl⟩
  have hn := O.n
  have th : f_X10_those h m (1 : Int32) = some (w (gs (e 0) 1)) := mthose H (c := 1) (by decide)
  have t0 : f_X10_those h m (0 : Int32) = some (w (gs (e 0) 0)) := mthose H (c := 0) (by decide)
  have g0 := gs_lt O 0
  have g1 := gs_lt O 1
  have z1 : gs (e 0) 1 = 0 := Nat.eq_of_testBit_eq fun k => by
    rw [Nat.zero_testBit]
    cases d : (gs (e 0) 1).testBit k
    · rfl
    · have kn : k < gN (e 0) := by
        unfold gs at d
        rw [mk_bit] at d
        simp at d
        exact d.1
      have := cn_pos (p := fun j => (gs (e 0) 1).testBit j) (n := 12) (show k < 12 by omega) d
      rw [← pop_gs O] at q
      unfold pop at q
      omega
  obtain ⟨x1, e1, M1, F1⟩ := mdenies M 1 7 (w (gc (e 0) 0))
  refine ⟨x1, ?_, M1, F1⟩
  have c0 : ¬ ¬ w 0 = (0 : Int32) := fun z => z rfl
  have mb : f_X10_bits (w (gs (e 0) 0)) = some (w (gc (e 0) 0)) := by rw [mbits (by omega), pop_gs O]
  unfold f_X10_land
  simp only [M.gd, th, Option.bind_some, z1, if_neg c0, t0, mb, e1]
end MFREE
