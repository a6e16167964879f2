/-! the reference lands -/
section MLAND4
variable {B : Nat} {h h1 : PH} {m c : Nat} {e e1 : CS} {K : Nat → GS} {x y z : Int32}
theorem mland_ok (O : Ok B (e 0)) (M : MoC h m e) (A : KA e K c) (q : ju (e 0) 8 x y z = 0) : ∃ h1 e1, f_X10_land h m = some (an (e 0) 8 x y, h1) ∧ MoC h1 m (setR e1 0 (ef (e 0) 8 x y z)) ∧ KpE e K c (e 0) e1 ∧ fr (mW m) h h1 := by
  have H : Mg B h m (e 0) := ⟨O, e, M, rfl⟩
  have hn := O.n
  have J := JB.of H
  have hA := gA_small J O
  have hG := gs_lt O 1
  have nz := need_8 q
  have c0 : ¬ w (gs (e 0) 1) = (0 : Int32) := fun z => nz (by
    have := (w_inj (b := 0) (by omega) (by decide)).mp z
    rw [← pop_gs O, this]; rfl)
  have th : f_X10_those h m (1 : Int32) = some (w (gs (e 0) 1)) := mthose H (c := 1) (by decide)
  obtain ⟨x2, d2, e2, M2, A2, r2, F2⟩ := mkeepE M A
  have H2 : Mr B x2 m d2 (e 0) := ⟨O, by rw [← r2, setR_id]; exact M2⟩
  obtain ⟨x3, e3, M3, F3⟩ := mland_loop H2 J
  have n6 : alI .int x3 (m + 1) (6 : Int32) = some (e 0 6) := by
    have := M3.a0 (k := 6) (by decide)
    rw [setR_0] at this
    exact this
  obtain ⟨x4, e4, M4, F4⟩ := mput M3 (i := 6) (e 0 6 + w (pop (gA (e 0)))) (by decide)
  have n7 : alI .int x4 (m + 1) (7 : Int32) = some (e 0 7) := by
    have := M4.a0 (k := 7) (by decide)
    rw [setR_0] at this
    exact this
  obtain ⟨x5, e5, M5, F5⟩ := mput M4 (i := 7) (e 0 7 + (w (pop (gs (e 0) 1)) - w (pop (gA (e 0))))) (by decide)
  rw [eLm_67 J O] at M5
  have O5 := eLa_ok J O _ (Nat.le_refl _)
  have H5 : Mg B x5 m (eLa (e 0) (gN (e 0))) := ⟨O5, _, M5, setR_0 _ _ _⟩
  have n4 : alI .int x5 (m + 1) (4 : Int32) = some (e 0 4) := by
    have := H5.a (i := 4) (by decide)
    rw [eLa_far O (Nat.le_refl _) (fun j hj => by omega) (by omega) (by omega) (by omega)] at this
    exact this
  have hv5 := mheavy H5 (S := gA (e 0)) (by omega)
  rw [gW_eLa O] at hv5
  obtain ⟨x6, e6, M6, F6⟩ := mput M5 (i := 4) (e 0 4 + (2 : Int32) * w (gW (e 0) (gA (e 0)))) (by decide)
  have H6 : Mg B x6 m (eLand (e 0)) := ⟨O5.sc (by simp), _, M6, setR_0 _ _ _⟩
  have hv6 := mheavy H6 (S := gA (e 0)) (by omega)
  have gw : gW (eLand (e 0)) (gA (e 0)) = gW (e 0) (gA (e 0)) := by
    rw [← gW_eLa O]
    unfold gW eLand
    have en : gN (upd (eLa (e 0) (gN (e 0))) 4 (e 0 4 + (2 : Int32) * w (gW (e 0) (gA (e 0))))) = gN (eLa (e 0) (gN (e 0))) := by unfold gN; rw [upd_ne (by omega)]
    rw [en]
    refine sm_ext fun k hk => ?_
    unfold gT
    rw [upd_ne (by omega)]
  rw [gw] at hv6
  have e4' : asI .int x3 (m + 1) (6 : Int32) (e 0 6 + w (pop (gA (e 0)))) = some x4 := e4
  have e5' : asI .int x4 (m + 1) (7 : Int32) (e 0 7 + (w (pop (gs (e 0) 1)) - w (pop (gA (e 0))))) = some x5 := e5
  have e6' : asI .int x5 (m + 1) (4 : Int32) (e 0 4 + (2 : Int32) * w (gW (e 0) (gA (e 0)))) = some x6 := e6
  refine ⟨x6, d2, ?_, ?_, A2, (((F2.trans F3).trans F4).trans F5).trans F6⟩
  · rw [an_8]
    unfold f_X10_land
    simp only [M.gd, th, Option.bind_some, mlanding H, M.r0, e2, e3, M3.r0, n6, mbits (show gA (e 0) < 2147483648 by omega), e4', M4.r0, n7, mbits (show gs (e 0) 1 < 2147483648 by omega), e5', M5.r0, n4, M5.gd, hv5, e6', M6.gd, hv6]
    rw [if_pos c0]
  · rw [ef_8]
    exact M6
end MLAND4
