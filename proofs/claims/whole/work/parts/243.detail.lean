/-! details of denials; what a change does and answers -/
section DETAIL
variable {B : Nat} {g : GS} {h h1 : PH} {a l m k i j c : Nat} {x y z : Int32}
/-- the detail of a denial -/
def dt (g : GS) (v k : Nat) (x : Int32) : Int32 :=
  if v = 1 then (if k = 0 then 10 else 5)
  else if v = 2 then w (gS g)
  else if v = 3 then (if isM g x = false then 0 else w (gK g (nv x)))
  else if v = 4 then x
  else if v = 5 then (if isN g x = false then 0 else w (pop (gU g (nv x))))
  else if v = 6 then w (prc (gS g)) - g 4
  else if v = 7 then w (gc g 0)
  else w (gS g)
theorem dt_1 : dt g 1 k x = (if k = 0 then 10 else 5) := if_pos rfl
theorem dt_2 : dt g 2 k x = w (gS g) := (if_neg (by decide)).trans (if_pos rfl)
theorem dt_3 : dt g 3 k x = (if isM g x = false then 0 else w (gK g (nv x))) := (if_neg (by decide)).trans ((if_neg (by decide)).trans (if_pos rfl))
theorem dt_4 : dt g 4 k x = x := (if_neg (by decide)).trans ((if_neg (by decide)).trans ((if_neg (by decide)).trans (if_pos rfl)))
theorem dt_5 : dt g 5 k x = (if isN g x = false then 0 else w (pop (gU g (nv x)))) := (if_neg (by decide)).trans ((if_neg (by decide)).trans ((if_neg (by decide)).trans ((if_neg (by decide)).trans (if_pos rfl))))
theorem dt_6 : dt g 6 k x = w (prc (gS g)) - g 4 := (if_neg (by decide)).trans ((if_neg (by decide)).trans ((if_neg (by decide)).trans ((if_neg (by decide)).trans ((if_neg (by decide)).trans (if_pos rfl)))))
theorem dt_7 : dt g 7 k x = w (gc g 0) := (if_neg (by decide)).trans ((if_neg (by decide)).trans ((if_neg (by decide)).trans ((if_neg (by decide)).trans ((if_neg (by decide)).trans ((if_neg (by decide)).trans (if_pos rfl))))))
theorem dt_8 : dt g 8 k x = w (gS g) := (if_neg (by decide)).trans ((if_neg (by decide)).trans ((if_neg (by decide)).trans ((if_neg (by decide)).trans ((if_neg (by decide)).trans ((if_neg (by decide)).trans (if_neg (by decide)))))))
theorem detail_1 (h : PH) (a : Nat) (hk : k ≤ 11) : f_X5_detailOf h a (1 : Int32) (w k) x = some (dt g 1 k x) := by
  unfold f_X5_detailOf
  have e : (w k = (0 : Int32)) = (k = 0) := propext (w_inj (b := 0) (by omega) (by decide))
  rw [if_neg (by decide), if_pos rfl, dt_1]
  simp only [e]
  by_cases c : k = 0
  · rw [if_neg (fun q => q c), if_pos c]
  · rw [if_pos c, if_neg c]
theorem detail_2 (H : Sg B h a g) (y : Int32) : f_X5_detailOf h a (2 : Int32) y x = some (dt g 2 k x) := by
  unfold f_X5_detailOf
  rw [if_neg (by decide), if_neg (by decide), if_pos rfl, dt_2]
  simp only [H.gd, season_ok H, Option.bind_some]
theorem detail_3 (H : Sg B h a g) (y : Int32) : f_X5_detailOf h a (3 : Int32) y x = some (dt g 3 k x) := by
  have hm := H.ok.m
  unfold f_X5_detailOf
  rw [if_neg (by decide), if_neg (by decide), if_neg (by decide), if_pos rfl, dt_3]
  simp only [H.gd, hasNet_ok H, Option.bind_some]
  by_cases c : isM g x = false
  · rw [if_pos c, if_pos c]
  · rw [if_neg c, if_neg c]
    obtain ⟨i, i1, rfl⟩ := (isM_iff (g := g) (by omega)).mp (by simpa using c)
    rw [nv_w (show i < 2147483648 by omega)]
    simp only [H.r11, H.a11 i1, Option.bind_some]
theorem detail_4 (h : PH) (a : Nat) (y : Int32) : f_X5_detailOf h a (4 : Int32) y x = some (dt g 4 k x) := by
  unfold f_X5_detailOf
  rw [if_neg (by decide), if_neg (by decide), if_neg (by decide), if_neg (by decide), if_pos rfl, dt_4]
theorem detail_5 (H : Sg B h a g) (y : Int32) : f_X5_detailOf h a (5 : Int32) y x = some (dt g 5 k x) := by
  have hn := H.ok.n
  unfold f_X5_detailOf
  rw [if_neg (by decide), if_neg (by decide), if_neg (by decide), if_neg (by decide), if_neg (by decide), if_pos rfl, dt_5]
  simp only [H.gd, hasNote_ok H, Option.bind_some]
  by_cases c : isN g x = false
  · rw [if_pos c, if_pos c]
  · rw [if_neg c, if_neg c]
    obtain ⟨i, i1, rfl⟩ := (isN_iff (g := g) (by omega)).mp (by simpa using c)
    rw [nv_w (show i < 2147483648 by omega)]
    simp only [countCitedFrom_ok H i1, Option.bind_some]
theorem detail_6 (H : Sg B h a g) (Pr : Pri h) (y : Int32) : f_X5_detailOf h a (6 : Int32) y x = some (dt g 6 k x) := by
  unfold f_X5_detailOf
  rw [if_neg (by decide), if_neg (by decide), if_neg (by decide), if_neg (by decide), if_neg (by decide), if_neg (by decide), if_pos rfl, dt_6]
  simp only [H.gd, price_ok H Pr, H.i14, Option.bind_some]
theorem detail_7 (H : Sg B h a g) (y : Int32) : f_X5_detailOf h a (7 : Int32) y x = some (dt g 7 k x) := by
  unfold f_X5_detailOf
  rw [if_neg (by decide), if_neg (by decide), if_neg (by decide), if_neg (by decide), if_neg (by decide), if_neg (by decide), if_neg (by decide), if_pos rfl, dt_7]
  simp only [H.gd, count_ok H (c := 102) (i := 0) (fun n hn => wc_0 hn), Option.bind_some]
theorem detail_8 (H : Sg B h a g) (y : Int32) : f_X5_detailOf h a (8 : Int32) y x = some (dt g 8 k x) := by
  unfold f_X5_detailOf
  rw [if_neg (by decide), if_neg (by decide), if_neg (by decide), if_neg (by decide), if_neg (by decide), if_neg (by decide), if_neg (by decide), if_neg (by decide), if_pos rfl, dt_8]
  simp only [H.gd, season_ok H, Option.bind_some]
/-- what a change makes of the row -/
noncomputable def ef (g : GS) (k : Nat) (x y z : Int32) : GS :=
  if k = 0 then eNote g x y
  else if k = 1 ∨ k = 2 then eCite g (nv x) (nv y)
  else if k = 3 then eCur g (nv x) y
  else if k = 4 then eNet g x y z
  else if k = 5 then eCut g (nv x)
  else if k = 6 then eHaul g (gZ g (nv x))
  else if k = 7 then eQuo g (nv x) y
  else if k = 8 then eLand g
  else if k = 9 then eFree g (nv x)
  else if k = 10 then eLic g
  else eGos g (nv x)
/-- what it answers -/
noncomputable def an (g : GS) (k : Nat) (x y : Int32) : Int32 :=
  if k = 0 then w (gN g)
  else if k = 1 ∨ k = 2 then w (pop (gU g (nv x) ^^^ 2 ^ nv y))
  else if k = 3 then g (8 + nv x)
  else if k = 4 then w (gM g)
  else if k = 5 then w (gM g - 1)
  else if k = 6 then w (pop (gZ g (nv x)))
  else if k = 7 then g (20 + nv x)
  else if k = 8 then w (gW g (gA g))
  else if k = 9 then w (gc (eFree g (nv x)) 1)
  else if k = 10 then g 4 - w (prc (gS g))
  else w (mvn g (nv x))
theorem btw_iff {lo hi : Nat} (hl : lo < 2147483648) (hh : hi < 2147483648) : f_X9_isBetween x (w lo) (w hi) = true ↔ ∃ i, lo ≤ i ∧ i ≤ hi ∧ x = w i := by
  unfold f_X9_isBetween
  constructor
  · intro q
    by_cases c : x < w lo
    · rw [if_pos c] at q; exact absurd q (by decide)
    · rw [if_neg c] at q
      by_cases d : w hi < x
      · rw [if_pos d] at q; exact absurd q (by decide)
      · have h1 : w lo ≤ x := Int32.not_lt.mp c
        have h2 : x ≤ w hi := Int32.not_lt.mp d
        have h0 : (0 : Int32) ≤ w lo := (w_le (a := 0) (by decide) hl).mpr (Nat.zero_le _)
        have e : w (x.toNatClampNeg) = x := Int32.ofNat_toNatClampNeg x (Int32.le_trans h0 h1)
        have l := Int32.toNatClampNeg_lt x
        rw [← e] at h1 h2
        exact ⟨_, (w_le hl (by omega)).mp h1, (w_le (by omega) hh).mp h2, e.symm⟩
  · rintro ⟨i, h1, h2, rfl⟩
    rw [if_neg (by rw [w_lt (by omega) hl]; omega), if_neg (by rw [w_lt hh (by omega)]; omega)]
theorem page_iff : f_X9_isPage x = true ↔ ∃ p, p < 12 ∧ x = w p := by
  unfold f_X9_isPage
  have := btw_iff (x := x) (lo := 0) (hi := 11) (by decide) (by decide)
  constructor
  · intro q
    obtain ⟨i, h1, h2, e⟩ := this.mp q
    exact ⟨i, by omega, e⟩
  · rintro ⟨p, h1, e⟩
    exact this.mpr ⟨p, by omega, by omega, e⟩
theorem cur_iff : f_X9_isBetween x (-1) 1 = true ↔ x = 0 ∨ x = 1 ∨ x = -1 := by
  unfold f_X9_isBetween
  constructor
  · intro q
    by_cases c : x < (-1 : Int32)
    · rw [if_pos c] at q; exact absurd q (by decide)
    · rw [if_neg c] at q
      by_cases d : (1 : Int32) < x
      · rw [if_pos d] at q; exact absurd q (by decide)
      · have h1 : (-1 : Int32) ≤ x := Int32.not_lt.mp c
        have h2 : x ≤ (1 : Int32) := Int32.not_lt.mp d
        rw [Int32.le_iff_toInt_le] at h1 h2
        have m1 : (-1 : Int32).toInt = -1 := by decide
        have p1 : (1 : Int32).toInt = 1 := by decide
        rw [m1] at h1
        rw [p1] at h2
        have : x.toInt = 0 ∨ x.toInt = 1 ∨ x.toInt = -1 := by omega
        rcases this with q | q | q
        · exact Or.inl (Int32.toInt_inj.mp (q.trans (by decide)))
        · exact Or.inr (Or.inl (Int32.toInt_inj.mp (q.trans (by decide))))
        · exact Or.inr (Or.inr (Int32.toInt_inj.mp (q.trans (by decide))))
  · rintro (rfl | rfl | rfl) <;> decide
theorem in_btw (x lo hi : Int32) : f_X10_in x lo hi = f_X9_isBetween x lo hi := rfl
end DETAIL
