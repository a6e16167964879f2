/-! VERDICTS: what a change is answered, by the game's numbers -/
section JUDGE
variable {B : Nat} {g : GS} {h h1 : PH} {a m k i j c : Nat} {x y z : Int32}
def juC (g : GS) (x y t : Int32) : Int32 := if isN g x = false then -2 else if isN g y = true then (if x = y then -1 else if zb ((gU g (nv x)).testBit (nv y)) = t then 0 else 5) else -2
noncomputable def ju (g : GS) (k : Nat) (x y z : Int32) : Int32 :=
  if k = 0 then (if f_X9_isPage x = false then -1 else if f_X9_isBetween y 1 30 = true then (if gN g < 10 then 0 else 1) else -1)
  else if k = 1 then juC g x y 0
  else if k = 2 then juC g x y 1
  else if k = 3 then (if f_X9_isPage x = false then -1 else if f_X9_isBetween y (-1) 1 = false then -1 else 0)
  else if k = 4 then (if f_X9_isPage x = false then -1 else if f_X9_isBetween y 1 12 = false then -1 else if f_X9_isBetween z 1 30 = true then (if gM g < 5 then 0 else 1) else -1)
  else if k = 5 then (if isM g x = false then -3 else 0)
  else if k = 6 then (if isM g x = true then (if g 3 = 0 then 2 else if gS g = 0 then (if 10 ≤ gK g (nv x) then 0 else 3) else 0) else -3)
  else if k = 7 then (if f_X9_isPage x = false then -1 else if f_X9_isBetween y 0 99 = false then -1 else 0)
  else if k = 8 then (if gc g 1 = 0 then 7 else 0)
  else if k = 9 then (if isN g x = true then (if gH g (nv x) = 1 then 0 else 4) else -2)
  else if k = 10 then (if g 3 = 0 then (if w (prc (gS g)) ≤ g 4 then 0 else 6) else 8)
  else (if f_X9_isBetween x 1 40 = false then -1 else 0)
theorem ju_0 : ju g 0 x y z = (if f_X9_isPage x = false then -1 else if f_X9_isBetween y 1 30 = true then (if gN g < 10 then 0 else 1) else -1) := (if_pos rfl)
theorem ju_1 : ju g 1 x y z = juC g x y 0 := ((if_neg (by decide)).trans (if_pos rfl))
theorem ju_2 : ju g 2 x y z = juC g x y 1 := ((if_neg (by decide)).trans ((if_neg (by decide)).trans (if_pos rfl)))
theorem ju_3 : ju g 3 x y z = (if f_X9_isPage x = false then -1 else if f_X9_isBetween y (-1) 1 = false then -1 else 0) := ((if_neg (by decide)).trans ((if_neg (by decide)).trans ((if_neg (by decide)).trans (if_pos rfl))))
theorem ju_4 : ju g 4 x y z = (if f_X9_isPage x = false then -1 else if f_X9_isBetween y 1 12 = false then -1 else if f_X9_isBetween z 1 30 = true then (if gM g < 5 then 0 else 1) else -1) := ((if_neg (by decide)).trans ((if_neg (by decide)).trans ((if_neg (by decide)).trans ((if_neg (by decide)).trans (if_pos rfl)))))
theorem ju_5 : ju g 5 x y z = (if isM g x = false then -3 else 0) := ((if_neg (by decide)).trans ((if_neg (by decide)).trans ((if_neg (by decide)).trans ((if_neg (by decide)).trans ((if_neg (by decide)).trans (if_pos rfl))))))
theorem ju_6 : ju g 6 x y z = (if isM g x = true then (if g 3 = 0 then 2 else if gS g = 0 then (if 10 ≤ gK g (nv x) then 0 else 3) else 0) else -3) := ((if_neg (by decide)).trans ((if_neg (by decide)).trans ((if_neg (by decide)).trans ((if_neg (by decide)).trans ((if_neg (by decide)).trans ((if_neg (by decide)).trans (if_pos rfl)))))))
theorem ju_7 : ju g 7 x y z = (if f_X9_isPage x = false then -1 else if f_X9_isBetween y 0 99 = false then -1 else 0) := ((if_neg (by decide)).trans ((if_neg (by decide)).trans ((if_neg (by decide)).trans ((if_neg (by decide)).trans ((if_neg (by decide)).trans ((if_neg (by decide)).trans ((if_neg (by decide)).trans (if_pos rfl))))))))
theorem ju_8 : ju g 8 x y z = (if gc g 1 = 0 then 7 else 0) := ((if_neg (by decide)).trans ((if_neg (by decide)).trans ((if_neg (by decide)).trans ((if_neg (by decide)).trans ((if_neg (by decide)).trans ((if_neg (by decide)).trans ((if_neg (by decide)).trans ((if_neg (by decide)).trans (if_pos rfl)))))))))
theorem ju_9 : ju g 9 x y z = (if isN g x = true then (if gH g (nv x) = 1 then 0 else 4) else -2) := ((if_neg (by decide)).trans ((if_neg (by decide)).trans ((if_neg (by decide)).trans ((if_neg (by decide)).trans ((if_neg (by decide)).trans ((if_neg (by decide)).trans ((if_neg (by decide)).trans ((if_neg (by decide)).trans ((if_neg (by decide)).trans (if_pos rfl))))))))))
theorem ju_10 : ju g 10 x y z = (if g 3 = 0 then (if w (prc (gS g)) ≤ g 4 then 0 else 6) else 8) := ((if_neg (by decide)).trans ((if_neg (by decide)).trans ((if_neg (by decide)).trans ((if_neg (by decide)).trans ((if_neg (by decide)).trans ((if_neg (by decide)).trans ((if_neg (by decide)).trans ((if_neg (by decide)).trans ((if_neg (by decide)).trans ((if_neg (by decide)).trans (if_pos rfl)))))))))))
theorem ju_11 : ju g 11 x y z = (if f_X9_isBetween x 1 40 = false then -1 else 0) := ((if_neg (by decide)).trans ((if_neg (by decide)).trans ((if_neg (by decide)).trans ((if_neg (by decide)).trans ((if_neg (by decide)).trans ((if_neg (by decide)).trans ((if_neg (by decide)).trans ((if_neg (by decide)).trans ((if_neg (by decide)).trans ((if_neg (by decide)).trans (if_neg (by decide))))))))))))
theorem judgeC_ok (H : Sg B h a g) (t : Int32) : f_X5_judgeCitation h a x y t = some (juC g x y t) := by
  have hn := H.ok.n
  unfold f_X5_judgeCitation juC
  simp only [H.gd, hasNote_ok H, Option.bind_some]
  by_cases c1 : isN g x = false
  · rw [if_pos c1, if_pos c1]
  · rw [if_neg c1, if_neg c1]
    by_cases c2 : isN g y = true
    · rw [if_pos c2, if_pos c2]
      obtain ⟨k, k1, rfl⟩ := (isN_iff (g := g) (by omega)).mp (by simpa using c1)
      obtain ⟨j, j1, rfl⟩ := (isN_iff (g := g) (by omega)).mp c2
      have gu := gU_lt H.ok k1
      rw [nv_w (show k < 2147483648 by omega), nv_w (show j < 2147483648 by omega)]
      by_cases c3 : w k = w j
      · rw [if_neg (fun q => q c3), if_pos c3]
      · rw [if_pos c3, if_neg c3]
        simp only [H.r4, H.a4 k1, Option.bind_some, has_w (show gU g k < 2147483648 by omega) (show j < 31 by omega)]
        by_cases c4 : zb ((gU g k).testBit j) = t
        · rw [if_neg (fun q => q c4), if_pos c4]
        · rw [if_pos c4, if_neg c4]
    · rw [if_neg c2, if_neg c2]
theorem gc_le (O : Ok B g) (i : Nat) : gc g i ≤ 10 := Nat.le_trans (cn_le _ _) O.n
theorem judge_0 (H : Sg B h a g) : f_X5_judge h a (0 : Int32) x y z = some (ju g 0 x y z) := by
  have hn := H.ok.n
  have hm := H.ok.m
  unfold f_X5_judge
  rw [if_neg (by decide), if_pos rfl, ju_0]
  unfold f_X5_judgeNote
  by_cases c1 : f_X9_isPage x = false
  · rw [if_pos c1, if_pos c1]; rfl
  · rw [if_neg c1, if_neg c1]
    by_cases c2 : f_X9_isBetween y 1 30 = true
    · rw [if_pos c2, if_pos c2]
      have e : (w (gN g) < (10 : Int32)) = (gN g < 10) := propext (w_lt (b := 10) (by omega) (by decide))
      simp only [H.i0, Option.bind_some, e]
      by_cases c3 : gN g < 10
      · rw [if_pos c3, if_pos c3]; rfl
      · rw [if_neg c3, if_neg c3]; rfl
    · rw [if_neg c2, if_neg c2]; rfl
theorem judge_1 (H : Sg B h a g) : f_X5_judge h a (1 : Int32) x y z = some (ju g 1 x y z) := by
  have hn := H.ok.n
  have hm := H.ok.m
  unfold f_X5_judge
  rw [if_neg (by decide), if_neg (by decide), if_pos rfl, ju_1]
  rw [judgeC_ok H]; rfl
theorem judge_2 (H : Sg B h a g) : f_X5_judge h a (2 : Int32) x y z = some (ju g 2 x y z) := by
  have hn := H.ok.n
  have hm := H.ok.m
  unfold f_X5_judge
  rw [if_neg (by decide), if_neg (by decide), if_neg (by decide), if_pos rfl, ju_2]
  rw [judgeC_ok H]; rfl
theorem judge_3 (H : Sg B h a g) : f_X5_judge h a (3 : Int32) x y z = some (ju g 3 x y z) := by
  have hn := H.ok.n
  have hm := H.ok.m
  unfold f_X5_judge
  rw [if_neg (by decide), if_neg (by decide), if_neg (by decide), if_neg (by decide), if_pos rfl, ju_3]
  by_cases c1 : f_X9_isPage x = false
  · rw [if_pos c1, if_pos c1]
  · rw [if_neg c1, if_neg c1]
    by_cases c2 : f_X9_isBetween y (-1) 1 = false
    · rw [if_pos c2, if_pos c2]
    · rw [if_neg c2, if_neg c2]
theorem judge_7 (H : Sg B h a g) : f_X5_judge h a (7 : Int32) x y z = some (ju g 7 x y z) := by
  have hn := H.ok.n
  have hm := H.ok.m
  unfold f_X5_judge
  rw [if_neg (by decide), if_neg (by decide), if_neg (by decide), if_neg (by decide), if_neg (by decide), if_neg (by decide), if_neg (by decide), if_neg (by decide), if_pos rfl, ju_7]
  by_cases c1 : f_X9_isPage x = false
  · rw [if_pos c1, if_pos c1]
  · rw [if_neg c1, if_neg c1]
    by_cases c2 : f_X9_isBetween y 0 99 = false
    · rw [if_pos c2, if_pos c2]
    · rw [if_neg c2, if_neg c2]
theorem judge_4 (H : Sg B h a g) : f_X5_judge h a (4 : Int32) x y z = some (ju g 4 x y z) := by
  have hn := H.ok.n
  have hm := H.ok.m
  unfold f_X5_judge
  rw [if_neg (by decide), if_neg (by decide), if_neg (by decide), if_neg (by decide), if_neg (by decide), if_pos rfl, ju_4]
  unfold f_X5_judgeNet
  by_cases c1 : f_X9_isPage x = false
  · rw [if_pos c1, if_pos c1]; rfl
  · rw [if_neg c1, if_neg c1]
    by_cases c2 : f_X9_isBetween y 1 12 = false
    · rw [if_pos c2, if_pos c2]; rfl
    · rw [if_neg c2, if_neg c2]
      by_cases c3 : f_X9_isBetween z 1 30 = true
      · rw [if_pos c3, if_pos c3]
        have e : (w (gM g) < (5 : Int32)) = (gM g < 5) := propext (w_lt (b := 5) (by omega) (by decide))
        simp only [H.i8, Option.bind_some, e]
        by_cases c4 : gM g < 5
        · rw [if_pos c4, if_pos c4]; rfl
        · rw [if_neg c4, if_neg c4]; rfl
      · rw [if_neg c3, if_neg c3]; rfl
theorem judge_5 (H : Sg B h a g) : f_X5_judge h a (5 : Int32) x y z = some (ju g 5 x y z) := by
  have hn := H.ok.n
  have hm := H.ok.m
  unfold f_X5_judge
  rw [if_neg (by decide), if_neg (by decide), if_neg (by decide), if_neg (by decide), if_neg (by decide), if_neg (by decide), if_pos rfl, ju_5]
  simp only [H.gd, hasNet_ok H, Option.bind_some]
  by_cases c1 : isM g x = false
  · rw [if_pos c1, if_pos c1]
  · rw [if_neg c1, if_neg c1]
theorem judge_6 (H : Sg B h a g) : f_X5_judge h a (6 : Int32) x y z = some (ju g 6 x y z) := by
  have hn := H.ok.n
  have hm := H.ok.m
  unfold f_X5_judge
  rw [if_neg (by decide), if_neg (by decide), if_neg (by decide), if_neg (by decide), if_neg (by decide), if_neg (by decide), if_neg (by decide), if_pos rfl, ju_6]
  unfold f_X5_judgeHaul
  simp only [H.gd, hasNet_ok H, Option.bind_some, H.i12, season_ok H]
  by_cases c1 : isM g x = true
  · rw [if_pos c1, if_pos c1]
    by_cases c2 : g 3 = 0
    · rw [if_neg (fun q => q c2), if_pos c2]; rfl
    · rw [if_pos c2, if_neg c2]
      have l := gS_lt g
      have e : (w (gS g) = (0 : Int32)) = (gS g = 0) := propext (w_inj (b := 0) (by omega) (by decide))
      simp only [e]
      by_cases c3 : gS g = 0
      · rw [if_neg (fun q => q c3), if_pos c3]
        obtain ⟨k, k1, rfl⟩ := (isM_iff (g := g) (by omega)).mp c1
        have kk := (H.ok.net k1).2.2.2.2.2.2.2
        have e2 : ((10 : Int32) ≤ w (gK g k)) = (10 ≤ gK g k) := propext (w_le (a := 10) (by decide) (by omega))
        rw [nv_w (show k < 2147483648 by omega)]
        simp only [H.r11, H.a11 k1, Option.bind_some, e2]
        by_cases c4 : 10 ≤ gK g k
        · rw [if_pos c4, if_pos c4]; rfl
        · rw [if_neg c4, if_neg c4]; rfl
      · rw [if_pos c3, if_neg c3]; rfl
  · rw [if_neg c1, if_neg c1]; rfl
theorem judge_8 (H : Sg B h a g) : f_X5_judge h a (8 : Int32) x y z = some (ju g 8 x y z) := by
  have hn := H.ok.n
  have hm := H.ok.m
  unfold f_X5_judge
  rw [if_neg (by decide), if_neg (by decide), if_neg (by decide), if_neg (by decide), if_neg (by decide), if_neg (by decide), if_neg (by decide), if_neg (by decide), if_neg (by decide), if_pos rfl, ju_8]
  have cl := gc_le H.ok 1
  have e : (w (gc g 1) = (0 : Int32)) = (gc g 1 = 0) := propext (w_inj (b := 0) (by omega) (by decide))
  simp only [H.gd, count_ok H (c := 104) (i := 1) (fun n hn => wc_1 hn), Option.bind_some, e]
  by_cases c1 : gc g 1 = 0
  · rw [if_neg (fun q => q c1), if_pos c1]
  · rw [if_pos c1, if_neg c1]
theorem judge_9 (H : Sg B h a g) : f_X5_judge h a (9 : Int32) x y z = some (ju g 9 x y z) := by
  have hn := H.ok.n
  have hm := H.ok.m
  unfold f_X5_judge
  rw [if_neg (by decide), if_neg (by decide), if_neg (by decide), if_neg (by decide), if_neg (by decide), if_neg (by decide), if_neg (by decide), if_neg (by decide), if_neg (by decide), if_neg (by decide), if_pos rfl, ju_9]
  unfold f_X5_judgeFree
  simp only [H.gd, hasNote_ok H, Option.bind_some]
  by_cases c1 : isN g x = true
  · rw [if_pos c1, if_pos c1]
    obtain ⟨k, k1, rfl⟩ := (isN_iff (g := g) (by omega)).mp c1
    rw [nv_w (show k < 2147483648 by omega)]
    simp only [H.r3, H.a3 k1, Option.bind_some]
    have hh := wc_1 (H.ok.note k1).2.2.2.2.2.2.1
    by_cases c2 : gH g k = 1
    · rw [if_neg (fun q => q (by rw [c2]; rfl)), if_pos c2]; rfl
    · have c3 : ¬ wc (gH g k) = (104 : Int32) := fun q => by
        rw [q] at hh
        exact c2 (by simpa using hh.symm)
      rw [if_pos c3, if_neg c2]; rfl
  · rw [if_neg c1, if_neg c1]; rfl
theorem judge_10 (H : Sg B h a g) (Pr : Pri h) : f_X5_judge h a (10 : Int32) x y z = some (ju g 10 x y z) := by
  have hn := H.ok.n
  have hm := H.ok.m
  unfold f_X5_judge
  rw [if_neg (by decide), if_neg (by decide), if_neg (by decide), if_neg (by decide), if_neg (by decide), if_neg (by decide), if_neg (by decide), if_neg (by decide), if_neg (by decide), if_neg (by decide), if_neg (by decide), if_pos rfl, ju_10]
  unfold f_X5_judgeLicence
  simp only [H.i12, H.i14, H.gd, price_ok H Pr, Option.bind_some]
  by_cases c1 : g 3 = 0
  · rw [if_pos c1, if_pos c1]
    by_cases c2 : w (prc (gS g)) ≤ g 4
    · rw [if_pos c2, if_pos c2]; rfl
    · rw [if_neg c2, if_neg c2]; rfl
  · rw [if_neg c1, if_neg c1]; rfl
theorem judge_11 (H : Sg B h a g) : f_X5_judge h a (11 : Int32) x y z = some (ju g 11 x y z) := by
  have hn := H.ok.n
  have hm := H.ok.m
  unfold f_X5_judge
  rw [if_neg (by decide), if_neg (by decide), if_neg (by decide), if_neg (by decide), if_neg (by decide), if_neg (by decide), if_neg (by decide), if_neg (by decide), if_neg (by decide), if_neg (by decide), if_neg (by decide), if_neg (by decide), if_pos rfl, ju_11]
  by_cases c1 : f_X9_isBetween x 1 40 = false
  · rw [if_pos c1, if_pos c1]
  · rw [if_neg c1, if_neg c1]
end JUDGE
