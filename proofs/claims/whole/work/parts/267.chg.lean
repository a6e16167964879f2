/-! A CHANGE ON BOTH SIDES -/
section CHG
variable {B : Nat} {q : Nat → PC} {h h1 h2 : PH} {g gs : GS} {K : Nat → GS} {c n k i m N : Nat} {sn : Option GS} {d1 d2 d3 x y z b code : Int32} {t : CS} {l sc : Nat → Int32} {e e1 e2 : CS}
/-- the law's end of a case -/
def LI (code b : Int32) (h2 : PH) : Prop := (if ¬ code = 0 then some h2 else (alL h2 139 (0 : Int32)).bind fun x => if (lg_cmp x b.toInt64) = 0 then some h2 else none) = some h2
theorem Tie.of_ok (T : Tie e g K c sn d1 d2 d3 t l n) (R : Rst e e1) (h0 : e1 0 = gs) (h9 : e1 9 = e 9) (h10 : e1 10 = e 10) (h11 : e1 11 = e 11) (S : Kst e e1 K c) : Tie e1 gs (Kn K c g) (min (c + 1) 8) sn d1 d2 d3 t l n := by
  obtain ⟨a1, a2, a3, a4, a5, a6, a7, a8, a9⟩ := T
  unfold Tie
  rw [h9, h10, h11, R 2 (by omega), R 4 (by omega), R 6 (by omega), R 12 (by omega), R 13 (by omega), R 14 (by omega), R 15 (by omega), R 16 (by omega)]
  refine ⟨h0, ?_, a3, a4, a5, a6, a7, a8, a9⟩
  rcases S with ⟨-, S⟩ | ⟨S, -⟩
  · rw [a1] at S; exact S
  · rw [a3] at S; exact absurd S (by decide)
theorem Tie.of_no (T : Tie e g K c sn d1 d2 d3 t l n) (R : Rst e e1) (h0 : e1 0 = e 0) (h9 : e1 9 0 = x) (h10 : e1 10 0 = y) (h11 : e1 11 0 = 0) (h1 : e1 1 = e 1) (h5 : e1 5 = e 5) : Tie e1 g K c sn x y 0 t l n := by
  obtain ⟨a1, a2, a3, a4, a5, a6, a7, a8, a9⟩ := T
  unfold Tie Kp
  rw [h0, h1, h5, h9, h10, h11, R 2 (by omega), R 4 (by omega), R 6 (by omega), R 12 (by omega), R 13 (by omega), R 14 (by omega), R 15 (by omega), R 16 (by omega)]
  exact ⟨a1, a2, a3, a4, ⟨rfl, rfl, rfl, fun _ => rfl⟩, a6, a7, a8, a9⟩
theorem Tie.of_bad (T : Tie e g K c sn d1 d2 d3 t l n) (R : Rst e e1) (h0 : e1 0 = e 0) (h9 : e1 9 = e 9) (h10 : e1 10 = e 10) (h11 : e1 11 = e 11) (h1 : e1 1 = e 1) (h5 : e1 5 = e 5) : Tie e1 g K c sn d1 d2 d3 t l n := by
  obtain ⟨a1, a2, a3, a4, a5, a6, a7, a8, a9⟩ := T
  unfold Tie Kp
  rw [h0, h1, h5, h9, h10, h11, R 2 (by omega), R 4 (by omega), R 6 (by omega), R 12 (by omega), R 13 (by omega), R 14 (by omega), R 15 (by omega), R 16 (by omega)]
  exact ⟨a1, a2, a3, a4, a5, a6, a7, a8, a9⟩
theorem cd_0 (k : Nat) : cd k 0 = 0 := if_pos rfl
theorem cd_ne (k : Nat) {v : Int32} (hv : ¬ v = 0) : ¬ cd k v = 0 := by
  unfold cd
  rw [if_neg hv]
  repeat' split
  all_goals decide
theorem chg (C : Cst q h) (OL : OutL h) (OD : OutD h) (I : IC B h g K c sn d1 d2 d3 t l n) (M : MoC h 131 e) (T : Tie e g K c sn d1 d2 d3 t l n) (Pr : Pri h) (hb : B + 40 < 1000000000) (hk : k ≤ 11) (mop : PH → Option (Int32 × PH)) (hm : ∀ p, MoC p 131 e → Ok B (e 0) → KA e K c → MR p 131 e K c k x y z (mop p)) :
  (ju g k x y z = 0 ∧ ∃ h1, f_X9_change h 86 (w k) x y z = some (Sum.inr (an g k x y), h1) ∧ ∃ h2, asL h1 139 (0 : Int32) (an g k x y).toInt64 = some h2 ∧ ∃ h3 e3, mop h2 = some (an g k x y, h3) ∧ MoC h2 131 e ∧ MoC h3 131 e3 ∧ e3 8 0 = 0 ∧ Inv (B + 40) q h3 ∧ Cst q h2 ∧ LI 0 (an g k x y) h3) ∨
  (¬ ju g k x y z = 0 ∧ ∃ h1, f_X9_change h 86 (w k) x y z = some (Sum.inl (xs (ju g k x y z)), h1) ∧ ∃ h3 e3, mop h1 = some (0, h3) ∧ MoC h1 131 e ∧ MoC h3 131 e3 ∧ e3 8 0 = cd k (ju g k x y z) ∧ Inv (B + 40) q h3 ∧ Cst q h1 ∧ LI (cd k (ju g k x y z)) 0 h3) := by
  have T' := T
  obtain ⟨rfl, a2, a3, a4⟩ := T'
  have O := I.ok
  have J := JB.of ⟨O, e, M, rfl⟩
  have A : KA e K c := Or.inl ⟨a3, a2⟩
  rcases jv_all (x := x) (y := y) (z := z) O hk with v | v | ⟨i, i1, i2, v⟩
  · refine Or.inl ⟨v, ?_⟩
    obtain ⟨h1, E1, I1, F1⟩ := change_fine I J Pr hb hk v
    obtain ⟨h2, W, L⟩ := LW.val (C.cW F1) (OL.frm F1 (no_cW (by omega) (by omega))) (OD.frm F1 (no_cW (by omega) (by omega))) I1 (moc_cW M F1) (an (e 0) k x y).toInt64
    obtain ⟨h3, e3, a, E3, M3, F3, R, Z⟩ := hm h2 L.2.2.2.2.2 O A
    rcases Z with ⟨-, z2, z3, z4, z5, z6, z7, z8⟩ | ⟨z, -⟩ | ⟨z, -⟩
    · refine ⟨h1, E1, h2, W, h3, e3, by rw [E3, z2], L.2.2.2.2.2, M3, z4, Inv.of L F3 M3 (T.of_ok R z3 z5 z6 z7 z8), L.1, law_x L F3 (fun _ => rfl)⟩
    · rw [v] at z; exact absurd z (by decide)
    · rw [v] at z; exact absurd z (by decide)
  · have v0 : ¬ ju (e 0) k x y z = 0 := by rcases v with v | v | v <;> rw [v] <;> decide
    refine Or.inr ⟨v0, h, change_bad I Pr hk v, ?_⟩
    have L : LW (B + 40) q h e (cd k (ju (e 0) k x y z)) 0 (e 0) K c sn d1 d2 d3 t l n := LW.thr (cd_ne k v0) C OL OD (I.le (by omega) hb) M 0
    obtain ⟨h3, e3, a, E3, M3, F3, R, Z⟩ := hm h M O A
    rcases Z with ⟨z, -⟩ | ⟨z, -⟩ | ⟨-, z2, z3, z4, z5, z6, z7, z8, z9, z10⟩
    · exact absurd z v0
    · exfalso
      rcases v with v | v | v <;> rw [v] at z <;> exact absurd z (by decide)
    · exact ⟨h3, e3, by rw [E3, z2], M, M3, z4, Inv.of L F3 M3 (T.of_bad R z3 z6 z7 z8 z9 z10), C, law_x L F3 (fun z => absurd z (cd_ne k v0))⟩
  · have wp := w_pos i1 i2
    have v0 : ¬ ju (e 0) k x y z = 0 := by rw [v]; exact wp.2.2
    obtain ⟨h1, E1, I1, F1⟩ := change_no I Pr hk i1 i2 v
    have L : LW (B + 40) q h1 e (cd k (ju (e 0) k x y z)) 0 (e 0) K c sn (ju (e 0) k x y z) (dt (e 0) i k x) 0 t l n := LW.thr (cd_ne k v0) (C.cW F1) (OL.frm F1 (no_cW (by omega) (by omega))) (OD.frm F1 (no_cW (by omega) (by omega))) (I1.le (by omega) hb) (moc_cW M F1) 0
    refine Or.inr ⟨v0, h1, E1, ?_⟩
    obtain ⟨h3, e3, a, E3, M3, F3, R, Z⟩ := hm h1 L.2.2.2.2.2 O A
    rcases Z with ⟨z, -⟩ | ⟨z1, z2, z3, z4, z5, z6, z7, z8, z9, z10⟩ | ⟨z, -⟩
    · exact absurd z v0
    · have en : nv (ju (e 0) k x y z) = i := by rw [v]; exact nv_w (by omega)
      rw [en] at z7
      exact ⟨h3, e3, by rw [E3, z2], L.2.2.2.2.2, M3, z4, Inv.of L F3 M3 (T.of_no R z3 z6 z7 z8 z9 z10), L.1, law_x L F3 (fun z => absurd z (cd_ne k v0))⟩
    · exfalso
      rw [v] at z
      exact absurd (Int32.lt_trans wp.1 z) (Int32.lt_irrefl)
end CHG
