/-! THE TWO TOGETHER -/
section INV
variable {B B' : Nat} {q : Nat → PC} {h h1 h2 : PH} {g gs : GS} {K : Nat → GS} {c n k x i m : Nat} {sn : Option GS} {d1 d2 d3 : Int32} {t : CS} {l : Nat → Int32} {e e1 e2 : CS} {y y' : Int64} {code b : Int32}
/-- the constants are as they were -/
def Cst (q : Nat → PC) (h : PH) : Prop := 86 ≤ h.1 ∧ ∀ x, x < 86 → h.2 x = q x
def OutL (h : PH) : Prop := 140 < h.1 ∧ ∃ f, h.2 139 = .inl (.long, 1, .inr (.inl f))
def OutD (h : PH) : Prop := 140 < h.1 ∧ ∃ f, h.2 140 = .inl (.double, 1, .inr (.inr (.inr (.inl f))))
def Tie (e : CS) (g : GS) (K : Nat → GS) (c : Nat) (sn : Option GS) (d1 d2 d3 : Int32) (t : CS) (l : Nat → Int32) (n : Nat) : Prop :=
  e 0 = g ∧ Kp e K c ∧ e 6 0 = 0 ∧ ((sn = none ∧ e 4 0 = 0) ∨ ∃ gs, sn = some gs ∧ e 4 0 = 1 ∧ ∀ k, k < 99 → e 2 k = gs k) ∧ (e 9 0 = d1 ∧ e 10 0 = d2 ∧ e 11 0 = d3 ∧ (d1 = 0 → d3 = 0)) ∧ (∃ tl, tl ≤ 60 ∧ t 1 0 = w tl ∧ e 13 0 = w tl ∧ ∀ i, i < tl → t 0 i = e 12 i) ∧ t 2 0 = e 14 0 ∧ e 16 0 = w n ∧ ∀ i, i < n → e 15 i = l i
/-- what holds between two calls -/
def Inv (B : Nat) (q : Nat → PC) (h : PH) : Prop := Cst q h ∧ OutL h ∧ OutD h ∧ ∃ g K c sn d1 d2 d3 t l n e, IC B h g K c sn d1 d2 d3 t l n ∧ MoC h 131 e ∧ Tie e g K c sn d1 d2 d3 t l n
theorem Cst.frm {W : Nat → Prop} (C : Cst q h) (F : fr W h h1) (hw : ∀ x, W x → 86 ≤ x) : Cst q h1 := ⟨Nat.le_trans C.1 F.1, fun x hx => (F.2 x (by have := C.1; omega) (fun z => by have := hw x z; omega)).trans (C.2 x hx)⟩
theorem Cst.cW (C : Cst q h) (F : fr cW h h1) : Cst q h1 := C.frm F fun x z => by rcases z with z | z <;> omega
theorem Cst.mW (C : Cst q h) (F : fr (mW 131) h h1) : Cst q h1 := C.frm F fun x z => by have := z.1; omega
theorem OutL.frm {W : Nat → Prop} (O : OutL h) (F : fr W h h1) (hw : ¬ W 139) : OutL h1 := ⟨Nat.lt_of_lt_of_le O.1 F.1, O.2.choose, (F.2 139 (by have := O.1; omega) hw).trans O.2.choose_spec⟩
theorem OutD.frm {W : Nat → Prop} (O : OutD h) (F : fr W h h1) (hw : ¬ W 140) : OutD h1 := ⟨Nat.lt_of_lt_of_le O.1 F.1, O.2.choose, (F.2 140 O.1 hw).trans O.2.choose_spec⟩
theorem no_cW (hx : 131 ≤ x) (hx' : x ≤ 140) : ¬ cW x := fun z => by rcases z with z | z <;> omega
theorem no_mW (hx : x < 131 ∨ 138 < x) : ¬ mW 131 x := fun z => by have := z.1; have := z.2; omega
theorem moc_cW (M : MoC h 131 e) (F : fr cW h h1) : MoC h1 131 e := M.frm F fun i hi => no_cW (by omega) (by omega)
theorem IC.mW (I : IC B h g K c sn d1 d2 d3 t l n) (F : fr (mW 131) h h1) : IC B h1 g K c sn d1 d2 d3 t l n := I.frm F fun x z => no_mW (by rcases z with z | z <;> omega)
theorem Cst.pri (C : Cst q h) (P : Pri (0, q)) : Pri h := by
  obtain ⟨f, p1, p2⟩ := P
  exact ⟨f, (C.2 1 (by decide)).trans p1, p2⟩
/-- the out cell written -/
theorem OutL.put (O : OutL h) (y : Int64) : ∃ h1, asL h 139 (0 : Int32) y = some h1 ∧ (∃ f, h1.2 139 = .inl (.long, 1, .inr (.inl f)) ∧ f 0 = y) ∧ fr (fun x => x = 139) h h1 := by
  obtain ⟨hl, f, hf⟩ := O
  refine ⟨(h.1, z_up h.2 139 (.inl (.long, 1, .inr (.inl (vp_updL f 0 y))))), ?_, ⟨vp_updL f 0 y, by exact z_up_s h.2 139 _, if_pos rfl⟩, fr.up rfl⟩
  unfold asL
  rw [if_pos (by decide), hf]
  exact if_pos ⟨rfl, by decide⟩
theorem OutD.put (O : OutD h) (y : UInt64) : ∃ h1, asD h 140 (0 : Int32) y = some h1 ∧ (∃ f, h1.2 140 = .inl (.double, 1, .inr (.inr (.inr (.inl f)))) ∧ f 0 = y) ∧ fr (fun x => x = 140) h h1 := by
  obtain ⟨hl, f, hf⟩ := O
  refine ⟨(h.1, z_up h.2 140 (.inl (.double, 1, .inr (.inr (.inr (.inl (vf_upd f 0 y))))))), ?_, ⟨vf_upd f 0 y, by exact z_up_s h.2 140 _, if_pos rfl⟩, fr.up rfl⟩
  unfold asD
  rw [if_pos (by decide), hf]
  exact if_pos ⟨rfl, by decide⟩
theorem alL_of (hf : ∃ f, h.2 139 = .inl (.long, 1, .inr (.inl f)) ∧ f 0 = y) : alL h 139 (0 : Int32) = some y := by
  obtain ⟨f, h1, h2⟩ := hf
  unfold alL
  rw [if_pos (by decide), h1]
  exact (if_pos ⟨rfl, by decide⟩).trans (congrArg some h2)
theorem alD_of {y : UInt64} (hf : ∃ f, h.2 140 = .inl (.double, 1, .inr (.inr (.inr (.inl f)))) ∧ f 0 = y) : alD h 140 (0 : Int32) = some y := by
  obtain ⟨f, h1, h2⟩ := hf
  unfold alD
  rw [if_pos (by decide), h1]
  exact (if_pos ⟨rfl, by decide⟩).trans (congrArg some h2)
theorem lg_same (y : Int64) : lg_cmp y y = 0 := by
  unfold lg_cmp
  rw [if_neg (by exact Int64.lt_irrefl), if_pos rfl]
/-- behind the class's call, before the reference's: the wrapper's code, and what lies in the out cell -/
def LW (B : Nat) (q : Nat → PC) (h1 : PH) (e : CS) (code : Int32) (y : Int64) (g : GS) (K : Nat → GS) (c : Nat) (sn : Option GS) (d1 d2 d3 : Int32) (t : CS) (l : Nat → Int32) (n : Nat) : Prop := Cst q h1 ∧ OutL h1 ∧ OutD h1 ∧ (code = 0 → ∃ f, h1.2 139 = .inl (.long, 1, .inr (.inl f)) ∧ f 0 = y) ∧ IC B h1 g K c sn d1 d2 d3 t l n ∧ MoC h1 131 e
theorem LW.val (C : Cst q h) (O : OutL h) (D : OutD h) (I : IC B h g K c sn d1 d2 d3 t l n) (M : MoC h 131 e) (y : Int64) : ∃ h1, asL h 139 (0 : Int32) y = some h1 ∧ LW B q h1 e 0 y g K c sn d1 d2 d3 t l n := by
  obtain ⟨h1, e1, o1, F1⟩ := O.put y
  refine ⟨h1, e1, C.frm F1 (fun x z => by omega), ⟨Nat.lt_of_lt_of_le O.1 F1.1, o1.choose, o1.choose_spec.1⟩, D.frm F1 (by decide), fun _ => o1, I.frm F1 (fun x z => by rcases z with z | z <;> omega), M.frm F1 (fun i hi => by omega)⟩
theorem LW.thr (hc : ¬ code = 0) (C : Cst q h) (O : OutL h) (D : OutD h) (I : IC B h g K c sn d1 d2 d3 t l n) (M : MoC h 131 e) (y : Int64) : LW B q h e code y g K c sn d1 d2 d3 t l n := ⟨C, O, D, fun z => absurd z hc, I, M⟩
theorem thrown_of (M : MoC h 131 e) : f_X10_thrown h 131 = some (e 8 0) := by
  unfold f_X10_thrown
  rw [M.i8, Option.bind_some]
theorem Inv.of (L : LW B q h1 e code y g K c sn d1 d2 d3 t l n) (F : fr (mW 131) h1 h2) (M : MoC h2 131 e2) (T : Tie e2 g K c sn d1 d2 d3 t l n) : Inv B q h2 := by
  obtain ⟨a1, a2, a3, a4, a5, a6⟩ := L
  exact ⟨a1.mW F, a2.frm F (no_mW (by omega)), a3.frm F (no_mW (by omega)), g, K, c, sn, d1, d2, d3, t, l, n, e2, a5.mW F, M, T⟩
/-- the law's comparison -/
theorem law_x (L : LW B q h1 e code y g K c sn d1 d2 d3 t l n) (F : fr (mW 131) h1 h2) (hb : code = 0 → b.toInt64 = y) : (if ¬ code = 0 then some h2 else (alL h2 139 (0 : Int32)).bind fun x => if (lg_cmp x b.toInt64) = 0 then some h2 else none) = some h2 := by
  by_cases c0 : code = 0
  · rw [if_neg (fun z => z c0)]
    obtain ⟨f, f1, f2⟩ := L.2.2.2.1 c0
    have o : ∃ f, h2.2 139 = .inl (.long, 1, .inr (.inl f)) ∧ f 0 = y := ⟨f, (F.2 139 (by have := L.2.1.1; omega) (no_mW (by omega))).trans f1, f2⟩
    rw [alL_of o, Option.bind_some, hb c0, lg_same]
    rfl
  · rw [if_pos c0]
theorem law_if (L : LW B q h1 e code y g K c sn d1 d2 d3 t l n) (F : fr (mW 131) h1 h2) (hb : code = 0 → b.toInt64 = y) : (if code = code then (if ¬ code = 0 then some h2 else (alL h2 139 (0 : Int32)).bind fun x => if (lg_cmp x b.toInt64) = 0 then some h2 else none) else none) = some h2 := (if_pos rfl).trans (law_x L F hb)
theorem law_xB {b : Bool} (L : LW B q h1 e code y g K c sn d1 d2 d3 t l n) (F : fr (mW 131) h1 h2) (hb : code = 0 → (if b then (1 : Int64) else 0) = y) : (if ¬ code = 0 then some h2 else (alL h2 139 (0 : Int32)).bind fun x => if b = false then (if (lg_cmp x (0 : Int64)) = 0 then some h2 else none) else if (lg_cmp x (1 : Int64)) = 0 then some h2 else none) = some h2 := by
  by_cases c0 : code = 0
  · rw [if_neg (fun z => z c0)]
    obtain ⟨f, f1, f2⟩ := L.2.2.2.1 c0
    have o : ∃ f, h2.2 139 = .inl (.long, 1, .inr (.inl f)) ∧ f 0 = y := ⟨f, (F.2 139 (by have := L.2.1.1; omega) (no_mW (by omega))).trans f1, f2⟩
    rw [alL_of o, Option.bind_some, ← hb c0]
    cases b
    · rw [if_pos rfl]
      show (if lg_cmp (0 : Int64) 0 = 0 then some h2 else none) = some h2
      rw [lg_same]; rfl
    · rw [if_neg (by decide)]
      show (if lg_cmp (1 : Int64) 1 = 0 then some h2 else none) = some h2
      rw [lg_same]; rfl
  · rw [if_pos c0]
theorem law_ifB {b : Bool} (L : LW B q h1 e code y g K c sn d1 d2 d3 t l n) (F : fr (mW 131) h1 h2) (hb : code = 0 → (if b then (1 : Int64) else 0) = y) : (if code = code then (if ¬ code = 0 then some h2 else (alL h2 139 (0 : Int32)).bind fun x => if b = false then (if (lg_cmp x (0 : Int64)) = 0 then some h2 else none) else if (lg_cmp x (1 : Int64)) = 0 then some h2 else none) else none) = some h2 := (if_pos rfl).trans (law_xB L F hb)
/-- the reference's record of a fault told changes nothing of what is tied -/
theorem Tie.same (T : Tie e g K c sn d1 d2 d3 t l n) (hs : ∀ j, j ≠ 7 → j ≠ 8 → e1 j = e j) : Tie e1 g K c sn d1 d2 d3 t l n := by
  obtain ⟨a1, a2, a3, a4, a5, a6, a7, a8, a9⟩ := T
  unfold Tie Kp
  rw [hs 0 (by decide) (by decide), hs 1 (by decide) (by decide), hs 2 (by decide) (by decide), hs 4 (by decide) (by decide), hs 5 (by decide) (by decide), hs 6 (by decide) (by decide), hs 9 (by decide) (by decide), hs 10 (by decide) (by decide), hs 11 (by decide) (by decide), hs 12 (by decide) (by decide), hs 13 (by decide) (by decide), hs 14 (by decide) (by decide), hs 15 (by decide) (by decide), hs 16 (by decide) (by decide)]
  exact ⟨a1, a2, a3, a4, a5, a6, a7, a8, a9⟩
theorem Tie.eF (T : Tie e g K c sn d1 d2 d3 t l n) (p : Int32) : Tie (eF e p) g K c sn d1 d2 d3 t l n := T.same fun j h7 h8 => eF_row e p h7 h8
theorem Tie.cod (T : Tie e g K c sn d1 d2 d3 t l n) (p : Int32) : Tie (setR e 8 fun _ => p) g K c sn d1 d2 d3 t l n := T.same fun j h7 h8 => if_neg h8
theorem Inv.le (I : Inv B q h) (h1 : B ≤ B') (hb : B' < 1000000000) : Inv B' q h := by
  obtain ⟨a1, a2, a3, g, K, c, sn, d1, d2, d3, t, l, n, e, a4, a5⟩ := I
  exact ⟨a1, a2, a3, g, K, c, sn, d1, d2, d3, t, l, n, e, a4.le h1 hb, a5⟩
/-- reading the script -/
theorem scr_at {N : Nat} {sc : Nat → Int32} (C : Cst q h) (hq : q 0 = .inl (.int, N, .inl sc)) (hN : N ≤ 2048) {j : Nat} (hi : i + j < N) : alI .int h 0 (w i + w j) = some (sc (i + j)) := by
  rw [w_add]
  exact alI_of ((C.2 0 (by decide)).trans hq) (by omega) hi
theorem IC.ok (I : IC B h g K c sn d1 d2 d3 t l n) : Ok B g := by
  obtain ⟨N, R, so, b, s2, f, u, z, i1, i2, -⟩ := I
  exact i2.ok
theorem IC.gd (I : IC B h g K c sn d1 d2 d3 t l n) : gd h 86 11 = some () := by
  obtain ⟨N, R, so, b, s2, f, u, z, i1, -⟩ := I
  exact i1.gd
end INV
