/-! changes that nothing speaks against: their arguments, and the class's work -/
section PERF
variable {B : Nat} {g : GS} {h h1 : PH} {a l m k i j c : Nat} {x y z : Int32} {f u : Nat → Int32}
theorem need_0 (q : ju g 0 x y z = 0) : ∃ p t, x = w p ∧ y = w t ∧ p < 12 ∧ 1 ≤ t ∧ t ≤ 30 ∧ gN g < 10 := by
  rw [ju_0] at q
  by_cases c1 : f_X9_isPage x = false
  · rw [if_pos c1] at q; exact absurd q (by decide)
  · rw [if_neg c1] at q
    by_cases c2 : f_X9_isBetween y 1 30 = true
    · rw [if_pos c2] at q
      by_cases c3 : gN g < 10
      · obtain ⟨p, h1, h2⟩ := page_iff.mp (by simpa using c1)
        obtain ⟨t, h3, h4, h5⟩ := (btw_iff (lo := 1) (hi := 30) (by decide) (by decide)).mp c2
        exact ⟨p, t, h2, h5, h1, h3, h4, c3⟩
      · rw [if_neg c3] at q; exact absurd q (by decide)
    · rw [if_neg c2] at q; exact absurd q (by decide)
theorem need_C {t : Int32} (O : Ok B g) (q : juC g x y t = 0) : ∃ k j, x = w k ∧ y = w j ∧ k < gN g ∧ j < gN g ∧ k ≠ j ∧ zb ((gU g k).testBit j) = t := by
  have hn := O.n
  unfold juC at q
  by_cases c1 : isN g x = false
  · rw [if_pos c1] at q; exact absurd q (by decide)
  · rw [if_neg c1] at q
    by_cases c2 : isN g y = true
    · rw [if_pos c2] at q
      obtain ⟨k, k1, rfl⟩ := (isN_iff (g := g) (by omega)).mp (by simpa using c1)
      obtain ⟨j, j1, rfl⟩ := (isN_iff (g := g) (by omega)).mp c2
      rw [nv_w (show k < 2147483648 by omega), nv_w (show j < 2147483648 by omega)] at q
      by_cases c3 : w k = w j
      · rw [if_pos c3] at q; exact absurd q (by decide)
      · rw [if_neg c3] at q
        by_cases c4 : zb ((gU g k).testBit j) = t
        · exact ⟨k, j, rfl, rfl, k1, j1, fun e => c3 (by rw [e]), c4⟩
        · rw [if_neg c4] at q; exact absurd q (by decide)
    · rw [if_neg c2] at q; exact absurd q (by decide)
theorem need_3 (q : ju g 3 x y z = 0) : ∃ p, x = w p ∧ p < 12 ∧ (y = 0 ∨ y = 1 ∨ y = -1) := by
  rw [ju_3] at q
  by_cases c1 : f_X9_isPage x = false
  · rw [if_pos c1] at q; exact absurd q (by decide)
  · rw [if_neg c1] at q
    by_cases c2 : f_X9_isBetween y (-1) 1 = false
    · rw [if_pos c2] at q; exact absurd q (by decide)
    · obtain ⟨p, h1, h2⟩ := page_iff.mp (by simpa using c1)
      exact ⟨p, h2, h1, cur_iff.mp (by simpa using c2)⟩
theorem need_4 (q : ju g 4 x y z = 0) : ∃ p s t, x = w p ∧ y = w s ∧ z = w t ∧ p < 12 ∧ 1 ≤ s ∧ s ≤ 12 ∧ 1 ≤ t ∧ t ≤ 30 ∧ gM g < 5 := by
  rw [ju_4] at q
  by_cases c1 : f_X9_isPage x = false
  · rw [if_pos c1] at q; exact absurd q (by decide)
  · rw [if_neg c1] at q
    by_cases c2 : f_X9_isBetween y 1 12 = false
    · rw [if_pos c2] at q; exact absurd q (by decide)
    · rw [if_neg c2] at q
      by_cases c3 : f_X9_isBetween z 1 30 = true
      · rw [if_pos c3] at q
        by_cases c4 : gM g < 5
        · obtain ⟨p, h1, h2⟩ := page_iff.mp (by simpa using c1)
          obtain ⟨s, h3, h4, h5⟩ := (btw_iff (x := y) (lo := 1) (hi := 12) (by decide) (by decide)).mp (by
            cases d : f_X9_isBetween y 1 12
            · exact absurd d c2
            · exact d)
          obtain ⟨t, h6, h7, h8⟩ := (btw_iff (lo := 1) (hi := 30) (by decide) (by decide)).mp c3
          exact ⟨p, s, t, h2, h5, h8, h1, h3, h4, h6, h7, c4⟩
        · rw [if_neg c4] at q; exact absurd q (by decide)
      · rw [if_neg c3] at q; exact absurd q (by decide)
theorem need_5 (O : Ok B g) (q : ju g 5 x y z = 0) : ∃ k, x = w k ∧ k < gM g := by
  have hm := O.m
  rw [ju_5] at q
  by_cases c1 : isM g x = false
  · rw [if_pos c1] at q; exact absurd q (by decide)
  · obtain ⟨k, k1, e⟩ := (isM_iff (g := g) (by omega)).mp (by simpa using c1)
    exact ⟨k, e, k1⟩
theorem need_6 (O : Ok B g) (q : ju g 6 x y z = 0) : ∃ k, x = w k ∧ k < gM g ∧ ¬ g 3 = 0 ∧ ¬ (gS g = 0 ∧ gK g k < 10) := by
  have hm := O.m
  rw [ju_6] at q
  by_cases c1 : isM g x = true
  · rw [if_pos c1] at q
    obtain ⟨k, k1, rfl⟩ := (isM_iff (g := g) (by omega)).mp c1
    rw [nv_w (show k < 2147483648 by omega)] at q
    by_cases c2 : g 3 = 0
    · rw [if_pos c2] at q; exact absurd q (by decide)
    · rw [if_neg c2] at q
      refine ⟨k, rfl, k1, c2, fun d => ?_⟩
      rw [if_pos d.1, if_neg (by omega)] at q
      exact absurd q (by decide)
  · rw [if_neg c1] at q; exact absurd q (by decide)
theorem need_7 (q : ju g 7 x y z = 0) : ∃ p t, x = w p ∧ y = w t ∧ p < 12 ∧ t ≤ 99 := by
  rw [ju_7] at q
  by_cases c1 : f_X9_isPage x = false
  · rw [if_pos c1] at q; exact absurd q (by decide)
  · rw [if_neg c1] at q
    by_cases c2 : f_X9_isBetween y 0 99 = false
    · rw [if_pos c2] at q; exact absurd q (by decide)
    · obtain ⟨p, h1, h2⟩ := page_iff.mp (by simpa using c1)
      obtain ⟨t, h3, h4, h5⟩ := (btw_iff (x := y) (lo := 0) (hi := 99) (by decide) (by decide)).mp (by
        cases d : f_X9_isBetween y 0 99
        · exact absurd d c2
        · exact d)
      exact ⟨p, t, h2, h5, h1, h4⟩
theorem need_8 (q : ju g 8 x y z = 0) : ¬ gc g 1 = 0 := fun c => by
  rw [ju_8, if_pos c] at q; exact absurd q (by decide)
theorem need_9 (O : Ok B g) (q : ju g 9 x y z = 0) : ∃ k, x = w k ∧ k < gN g ∧ gH g k = 1 := by
  have hn := O.n
  rw [ju_9] at q
  by_cases c1 : isN g x = true
  · rw [if_pos c1] at q
    obtain ⟨k, k1, rfl⟩ := (isN_iff (g := g) (by omega)).mp c1
    rw [nv_w (show k < 2147483648 by omega)] at q
    by_cases c2 : gH g k = 1
    · exact ⟨k, rfl, k1, c2⟩
    · rw [if_neg c2] at q; exact absurd q (by decide)
  · rw [if_neg c1] at q; exact absurd q (by decide)
theorem need_10 (q : ju g 10 x y z = 0) : g 3 = 0 ∧ w (prc (gS g)) ≤ g 4 := by
  rw [ju_10] at q
  by_cases c1 : g 3 = 0
  · rw [if_pos c1] at q
    by_cases c2 : w (prc (gS g)) ≤ g 4
    · exact ⟨c1, c2⟩
    · rw [if_neg c2] at q; exact absurd q (by decide)
  · rw [if_neg c1] at q; exact absurd q (by decide)
theorem need_11 (q : ju g 11 x y z = 0) : ∃ n, x = w n ∧ 1 ≤ n ∧ n ≤ 40 := by
  rw [ju_11] at q
  by_cases c1 : f_X9_isBetween x 1 40 = false
  · rw [if_pos c1] at q; exact absurd q (by decide)
  · obtain ⟨n, h1, h2, e⟩ := (btw_iff (x := x) (lo := 1) (hi := 40) (by decide) (by decide)).mp (by
      cases d : f_X9_isBetween x 1 40
      · exact absurd d c1
      · exact d)
    exact ⟨n, e, h1, h2⟩
theorem ef_0 : ef g 0 x y z = eNote g x y := (if_pos (by decide))
theorem an_0 : an g 0 x y = w (gN g) := (if_pos (by decide))
theorem ef_1 : ef g 1 x y z = eCite g (nv x) (nv y) := ((if_neg (by decide)).trans (if_pos (by decide)))
theorem an_1 : an g 1 x y = w (pop (gU g (nv x) ^^^ 2 ^ nv y)) := ((if_neg (by decide)).trans (if_pos (by decide)))
theorem ef_2 : ef g 2 x y z = eCite g (nv x) (nv y) := ((if_neg (by decide)).trans (if_pos (by decide)))
theorem an_2 : an g 2 x y = w (pop (gU g (nv x) ^^^ 2 ^ nv y)) := ((if_neg (by decide)).trans (if_pos (by decide)))
theorem ef_3 : ef g 3 x y z = eCur g (nv x) y := ((if_neg (by decide)).trans ((if_neg (by decide)).trans (if_pos (by decide))))
theorem an_3 : an g 3 x y = g (8 + nv x) := ((if_neg (by decide)).trans ((if_neg (by decide)).trans (if_pos (by decide))))
theorem ef_4 : ef g 4 x y z = eNet g x y z := ((if_neg (by decide)).trans ((if_neg (by decide)).trans ((if_neg (by decide)).trans (if_pos (by decide)))))
theorem an_4 : an g 4 x y = w (gM g) := ((if_neg (by decide)).trans ((if_neg (by decide)).trans ((if_neg (by decide)).trans (if_pos (by decide)))))
theorem ef_5 : ef g 5 x y z = eCut g (nv x) := ((if_neg (by decide)).trans ((if_neg (by decide)).trans ((if_neg (by decide)).trans ((if_neg (by decide)).trans (if_pos (by decide))))))
theorem an_5 : an g 5 x y = w (gM g - 1) := ((if_neg (by decide)).trans ((if_neg (by decide)).trans ((if_neg (by decide)).trans ((if_neg (by decide)).trans (if_pos (by decide))))))
theorem ef_6 : ef g 6 x y z = eHaul g (gZ g (nv x)) := ((if_neg (by decide)).trans ((if_neg (by decide)).trans ((if_neg (by decide)).trans ((if_neg (by decide)).trans ((if_neg (by decide)).trans (if_pos (by decide)))))))
theorem an_6 : an g 6 x y = w (pop (gZ g (nv x))) := ((if_neg (by decide)).trans ((if_neg (by decide)).trans ((if_neg (by decide)).trans ((if_neg (by decide)).trans ((if_neg (by decide)).trans (if_pos (by decide)))))))
theorem ef_7 : ef g 7 x y z = eQuo g (nv x) y := ((if_neg (by decide)).trans ((if_neg (by decide)).trans ((if_neg (by decide)).trans ((if_neg (by decide)).trans ((if_neg (by decide)).trans ((if_neg (by decide)).trans (if_pos (by decide))))))))
theorem an_7 : an g 7 x y = g (20 + nv x) := ((if_neg (by decide)).trans ((if_neg (by decide)).trans ((if_neg (by decide)).trans ((if_neg (by decide)).trans ((if_neg (by decide)).trans ((if_neg (by decide)).trans (if_pos (by decide))))))))
theorem ef_8 : ef g 8 x y z = eLand g := ((if_neg (by decide)).trans ((if_neg (by decide)).trans ((if_neg (by decide)).trans ((if_neg (by decide)).trans ((if_neg (by decide)).trans ((if_neg (by decide)).trans ((if_neg (by decide)).trans (if_pos (by decide)))))))))
theorem an_8 : an g 8 x y = w (gW g (gA g)) := ((if_neg (by decide)).trans ((if_neg (by decide)).trans ((if_neg (by decide)).trans ((if_neg (by decide)).trans ((if_neg (by decide)).trans ((if_neg (by decide)).trans ((if_neg (by decide)).trans (if_pos (by decide)))))))))
theorem ef_9 : ef g 9 x y z = eFree g (nv x) := ((if_neg (by decide)).trans ((if_neg (by decide)).trans ((if_neg (by decide)).trans ((if_neg (by decide)).trans ((if_neg (by decide)).trans ((if_neg (by decide)).trans ((if_neg (by decide)).trans ((if_neg (by decide)).trans (if_pos (by decide))))))))))
theorem an_9 : an g 9 x y = w (gc (eFree g (nv x)) 1) := ((if_neg (by decide)).trans ((if_neg (by decide)).trans ((if_neg (by decide)).trans ((if_neg (by decide)).trans ((if_neg (by decide)).trans ((if_neg (by decide)).trans ((if_neg (by decide)).trans ((if_neg (by decide)).trans (if_pos (by decide))))))))))
theorem ef_10 : ef g 10 x y z = eLic g := ((if_neg (by decide)).trans ((if_neg (by decide)).trans ((if_neg (by decide)).trans ((if_neg (by decide)).trans ((if_neg (by decide)).trans ((if_neg (by decide)).trans ((if_neg (by decide)).trans ((if_neg (by decide)).trans ((if_neg (by decide)).trans (if_pos (by decide)))))))))))
theorem an_10 : an g 10 x y = g 4 - w (prc (gS g)) := ((if_neg (by decide)).trans ((if_neg (by decide)).trans ((if_neg (by decide)).trans ((if_neg (by decide)).trans ((if_neg (by decide)).trans ((if_neg (by decide)).trans ((if_neg (by decide)).trans ((if_neg (by decide)).trans ((if_neg (by decide)).trans (if_pos (by decide)))))))))))
theorem ef_11 : ef g 11 x y z = eGos g (nv x) := ((if_neg (by decide)).trans ((if_neg (by decide)).trans ((if_neg (by decide)).trans ((if_neg (by decide)).trans ((if_neg (by decide)).trans ((if_neg (by decide)).trans ((if_neg (by decide)).trans ((if_neg (by decide)).trans ((if_neg (by decide)).trans (if_neg (by decide)))))))))))
theorem an_11 : an g 11 x y = w (mvn g (nv x)) := ((if_neg (by decide)).trans ((if_neg (by decide)).trans ((if_neg (by decide)).trans ((if_neg (by decide)).trans ((if_neg (by decide)).trans ((if_neg (by decide)).trans ((if_neg (by decide)).trans ((if_neg (by decide)).trans ((if_neg (by decide)).trans (if_neg (by decide)))))))))))
theorem perf_0 (H : Sg B h a g) (q : ju g 0 x y z = 0) : ∃ h', f_X1_perform h a l (0 : Int32) x y z = some (an g 0 x y, h') ∧ Sg B h' a (ef g 0 x y z) ∧ fr (stW a) h h' := by
  obtain ⟨p, t, rfl, rfl, h1, h2, h3, h4⟩ := need_0 q
  obtain ⟨h', e, H', F⟩ := putNote_ok H h4 h1 h2 h3
  rw [an_0, ef_0]
  refine ⟨h', ?_, H', F⟩
  unfold f_X1_perform
  rw [if_neg (by decide), if_pos rfl]
  rw [e]; rfl
theorem perf_1 (H : Sg B h a g) (q : ju g 1 x y z = 0) : ∃ h', f_X1_perform h a l (1 : Int32) x y z = some (an g 1 x y, h') ∧ Sg B h' a (ef g 1 x y z) ∧ fr (stW a) h h' := by
  have hn := H.ok.n
  obtain ⟨k, j, rfl, rfl, h1, h2, h3, h4⟩ := need_C H.ok (by rw [ju_1] at q; exact q)
  have hb : (gU g k).testBit j = false := by
    cases d : (gU g k).testBit j
    · rfl
    · rw [d] at h4; exact absurd h4 (by decide)
  obtain ⟨h', e, H', F⟩ := perform_cite H l h1 h2 h3 hb z
  rw [an_1, ef_1, nv_w (show k < 2147483648 by omega), nv_w (show j < 2147483648 by omega)]
  exact ⟨h', e, H', F⟩
theorem perf_2 (H : Sg B h a g) (q : ju g 2 x y z = 0) : ∃ h', f_X1_perform h a l (2 : Int32) x y z = some (an g 2 x y, h') ∧ Sg B h' a (ef g 2 x y z) ∧ fr (stW a) h h' := by
  have hn := H.ok.n
  obtain ⟨k, j, rfl, rfl, h1, h2, h3, h4⟩ := need_C H.ok (by rw [ju_2] at q; exact q)
  have hb : (gU g k).testBit j = true := by
    cases d : (gU g k).testBit j
    · rw [d] at h4; exact absurd h4 (by decide)
    · rfl
  obtain ⟨h', e, H', F⟩ := perform_drop H l h1 h2 h3 hb z
  rw [an_2, ef_2, nv_w (show k < 2147483648 by omega), nv_w (show j < 2147483648 by omega)]
  exact ⟨h', e, H', F⟩
theorem perf_3 (H : Sg B h a g) (q : ju g 3 x y z = 0) : ∃ h', f_X1_perform h a l (3 : Int32) x y z = some (an g 3 x y, h') ∧ Sg B h' a (ef g 3 x y z) ∧ fr (stW a) h h' := by
  obtain ⟨p, rfl, h1, h2⟩ := need_3 q
  obtain ⟨h', e, H', F⟩ := cur_put H h1 h2
  rw [an_3, ef_3, nv_w (show p < 2147483648 by omega)]
  refine ⟨h', ?_, H', F⟩
  unfold f_X1_perform
  rw [if_neg (by decide), if_neg (by decide), if_neg (by decide), if_neg (by decide), if_pos rfl]
  rw [H.r5, Option.bind_some, e]; rfl
theorem perf_4 (H : Sg B h a g) (q : ju g 4 x y z = 0) : ∃ h', f_X1_perform h a l (4 : Int32) x y z = some (an g 4 x y, h') ∧ Sg B h' a (ef g 4 x y z) ∧ fr (stW a) h h' := by
  obtain ⟨p, s, t, rfl, rfl, rfl, h1, h2, h3, h4, h5, h6⟩ := need_4 q
  obtain ⟨h', e, H', F⟩ := putNet_ok H h6 h1 h2 h3 h4 h5
  rw [an_4, ef_4]
  refine ⟨h', ?_, H', F⟩
  unfold f_X1_perform
  rw [if_neg (by decide), if_neg (by decide), if_neg (by decide), if_neg (by decide), if_neg (by decide), if_pos rfl]
  rw [e]; rfl
theorem perf_5 (H : Sg B h a g) (q : ju g 5 x y z = 0) : ∃ h', f_X1_perform h a l (5 : Int32) x y z = some (an g 5 x y, h') ∧ Sg B h' a (ef g 5 x y z) ∧ fr (stW a) h h' := by
  have hm := H.ok.m
  obtain ⟨k, rfl, h1⟩ := need_5 H.ok q
  obtain ⟨h', e, H', F⟩ := cutNet_ok H h1
  rw [an_5, ef_5, nv_w (show k < 2147483648 by omega)]
  refine ⟨h', ?_, H', F⟩
  unfold f_X1_perform
  rw [if_neg (by decide), if_neg (by decide), if_neg (by decide), if_neg (by decide), if_neg (by decide), if_neg (by decide), if_pos rfl]
  rw [e]; rfl
theorem perf_6 (H : Sg B h a g) (q : ju g 6 x y z = 0) : ∃ h', f_X1_perform h a l (6 : Int32) x y z = some (an g 6 x y, h') ∧ Sg B h' a (ef g 6 x y z) ∧ fr (stW a) h h' := by
  have hm := H.ok.m
  obtain ⟨k, rfl, h1, -, -⟩ := need_6 H.ok q
  obtain ⟨h', e, H', F⟩ := haulNet_ok H h1
  rw [an_6, ef_6, nv_w (show k < 2147483648 by omega)]
  refine ⟨h', ?_, H', F⟩
  unfold f_X1_perform
  rw [if_neg (by decide), if_neg (by decide), if_neg (by decide), if_neg (by decide), if_neg (by decide), if_neg (by decide), if_neg (by decide), if_pos rfl]
  rw [e]; rfl
theorem perf_7 (H : Sg B h a g) (q : ju g 7 x y z = 0) : ∃ h', f_X1_perform h a l (7 : Int32) x y z = some (an g 7 x y, h') ∧ Sg B h' a (ef g 7 x y z) ∧ fr (stW a) h h' := by
  obtain ⟨p, t, rfl, rfl, h1, h2⟩ := need_7 q
  obtain ⟨h', e, H', F⟩ := quo_put H h1 h2
  have eq := (H.ok.page h1).2.1
  rw [an_7, ef_7, nv_w (show p < 2147483648 by omega), eq]
  refine ⟨h', ?_, H', F⟩
  unfold f_X1_perform
  rw [if_neg (by decide), if_neg (by decide), if_neg (by decide), if_neg (by decide), if_neg (by decide), if_neg (by decide), if_neg (by decide), if_neg (by decide), if_pos rfl]
  rw [H.r6, Option.bind_some, e]; rfl
theorem perf_9 (H : Sg B h a g) (q : ju g 9 x y z = 0) : ∃ h', f_X1_perform h a l (9 : Int32) x y z = some (an g 9 x y, h') ∧ Sg B h' a (ef g 9 x y z) ∧ fr (stW a) h h' := by
  have hn := H.ok.n
  obtain ⟨k, rfl, h1, h2⟩ := need_9 H.ok q
  obtain ⟨h', e, H', F⟩ := giveBack_ok H h1 h2
  rw [an_9, ef_9, nv_w (show k < 2147483648 by omega)]
  refine ⟨h', ?_, H', F⟩
  unfold f_X1_perform
  rw [if_neg (by decide), if_neg (by decide), if_neg (by decide), if_neg (by decide), if_neg (by decide), if_neg (by decide), if_neg (by decide), if_neg (by decide), if_neg (by decide), if_neg (by decide), if_pos rfl]
  simp only [e, Option.bind_some, H'.gd, count_ok H' (c := 104) (i := 1) (fun n hn => wc_1 hn)]
theorem perf_10 (H : Sg B h a g) (Pr : Pri h) (q : ju g 10 x y z = 0) : ∃ h', f_X1_perform h a l (10 : Int32) x y z = some (an g 10 x y, h') ∧ Sg B h' a (ef g 10 x y z) ∧ fr (stW a) h h' := by
  obtain ⟨h', e, H', F⟩ := payLicence_ok H Pr
  rw [an_10, ef_10]
  refine ⟨h', ?_, H', F⟩
  unfold f_X1_perform
  rw [if_neg (by decide), if_neg (by decide), if_neg (by decide), if_neg (by decide), if_neg (by decide), if_neg (by decide), if_neg (by decide), if_neg (by decide), if_neg (by decide), if_neg (by decide), if_neg (by decide), if_pos rfl]
  rw [e]; rfl
theorem perf_11 (H : Sg B h a g) (hb : B + 40 < 1000000000) (q : ju g 11 x y z = 0) : ∃ h', f_X1_perform h a l (11 : Int32) x y z = some (an g 11 x y, h') ∧ Sg (B + 40) h' a (ef g 11 x y z) ∧ fr (stW a) h h' := by
  obtain ⟨n, rfl, h1, h2⟩ := need_11 q
  obtain ⟨h', e, H', F⟩ := passDays_ok H h2 (by omega)
  rw [an_11, ef_11, nv_w (show n < 2147483648 by omega)]
  refine ⟨h', ?_, H'.le (by omega) hb, F⟩
  unfold f_X1_perform
  rw [if_neg (by decide), if_neg (by decide), if_neg (by decide), if_neg (by decide), if_neg (by decide), if_neg (by decide), if_neg (by decide), if_neg (by decide), if_neg (by decide), if_neg (by decide), if_neg (by decide), if_neg (by decide), if_pos rfl]
  rw [e]; rfl
theorem perf_8 (H : Sg B h a g) (L : LaC h l f u) (J : JB g) (hd : ∀ i, i ≤ 10 → ¬ laW l (a + i)) (hd2 : ∀ i, i ≤ 2 → ¬ stW a (l + i)) : ∃ h' f', f_X1_perform h a l (8 : Int32) x y z = some (an g 8 x y, h') ∧ Sg B h' a (ef g 8 x y z) ∧ LaC h' l f' u ∧ fr (fun c => stW a c ∨ laW l c) h h' := by
  obtain ⟨h1, f1, e1, L1, F1⟩ := choose_ok H L hd
  obtain ⟨h2, e2, H2, F2⟩ := landHold_ok (H.la F1 hd) J
  rw [an_8, ef_8]
  refine ⟨h2, f1, ?_, H2, L1.frm F2 hd2, (F1.mono fun _ y => Or.inr y).trans (F2.mono fun _ y => Or.inl y)⟩
  unfold f_X1_perform
  rw [if_neg (by decide), if_neg (by decide), if_neg (by decide), if_neg (by decide), if_neg (by decide), if_neg (by decide), if_neg (by decide), if_neg (by decide), if_neg (by decide), if_pos rfl]
  rw [L.gd, Option.bind_some, e1, Option.bind_some, e2]; rfl
end PERF
