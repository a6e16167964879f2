/-! the reference's landing, whole -/
section MLAND3
variable {B : Nat} {g : GS} {h h1 : PH} {m c : Nat} {e e1 : CS} {K : Nat → GS} {x y z : Int32}
theorem eLm_67 (J : JB g) (O : Ok B g) : upd (upd (eLm g (gN g)) 6 (g 6 + w (pop (gA g)))) 7 (g 7 + (w (pop (gs g 1)) - w (pop (gA g)))) = eLa g (gN g) := by
  have hn := O.n
  have r := pop_rest J O
  have r1 := pop_cn (by omega) (gA_lt J)
  have a6 := eLa_6 (g := g) (gN g)
  have a7 := eLa_7 (g := g) (gN g)
  rw [← r1] at a6
  have es : w (pop (gs g 1)) - w (pop (gA g)) = w (cn (fun k => decide (gH g k = 1) && !(gA g).testBit k) (gN g)) := by
    rw [w_sub (by omega), r]; congr 1; omega
  rw [es, ← a6, ← a7]
  funext i
  unfold eLm upd
  by_cases c7 : i = 7
  · rw [if_pos c7, c7]
  · rw [if_neg c7, if_neg c7]
    by_cases c6 : i = 6
    · rw [if_pos c6, c6]
    · rw [if_neg c6, if_neg c6]
theorem gW_eLa (O : Ok B g) (S : Nat) : gW (eLa g (gN g)) S = gW g S := by
  unfold gW
  rw [eLa_N O (Nat.le_refl _)]
  refine sm_ext fun k hk => ?_
  have hn := O.n
  unfold gT
  rw [eLa_far O (Nat.le_refl _) (fun j hj => by omega) (by omega) (by omega) (by omega)]
end MLAND3
