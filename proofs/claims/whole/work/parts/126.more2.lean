/-! small words of the printed functions, and rows that keep the counts of room in written numbers -/
section
def zb (b : Bool) : Int32 := if b then 1 else 0
theorem zb_f {b : Bool} (h : b = false) : zb b = 0 := by rw [h]; rfl
theorem zb_nf {b : Bool} (h : ¬ b = false) : ¬ zb b = 0 := by
  cases b with
  | false => exact absurd rfl h
  | true => decide
theorem zb_t {b : Bool} (h : b = true) : ¬ zb b = 0 := by rw [h]; decide
theorem zb_nt {b : Bool} (h : ¬ b = true) : zb b = 0 := by
  cases b with
  | true => exact absurd rfl h
  | false => rfl
theorem zb_nar (b : Bool) : narrow .boolean (.int (zb b)) = .int (zb b) := by cases b <;> rfl
def zrem (x y : Int32) : Int32 := x - x / y * y
def zshl (x y : Int32) : Int32 := x <<< (y &&& 31)
def zshr (x y : Int32) : Int32 := x >>> (y &&& 31)
def zushr (x y : Int32) : Int32 := (x.toUInt32 >>> (y.toUInt32 &&& Int32.toUInt32 31)).toInt32
def zi2c (x : Int32) : Int32 := (x.toUInt32 % 65536).toInt32
def zi2b (x : Int32) : Int32 := x.toInt8.toInt32
def zoc {α β : Type} (x : Option α) (n : β) (f : α → β) : β := match x with
  | none => n
  | some a => f a
theorem on {α β : Type} {x : Option α} {n r : β} {f : α → β} (e : zoc x n f = r) : (x = none ∧ n = r) ∨ ∃ a, x = some a ∧ f a = r := by
  cases x with
  | none => exact Or.inl ⟨rfl, e⟩
  | some a => exact Or.inr ⟨a, rfl, e⟩
theorem zk {k c a m : Nat} (h : k + c ≤ m) (q : a ≤ c) : k + a ≤ m := Nat.le_trans (Nat.add_le_add_left q k) h
def zoB (r : String ⊕ Bool) : String ⊕ Option Value := match r with
  | .inl e => .inl e
  | .inr x => .inr (some (.int (zb x)))
def zoR (r : String ⊕ Nat) : String ⊕ Option Value := match r with
  | .inl e => .inl e
  | .inr x => .inr (some (.ref x))
variable {l : Launch} {y : MethodName} {ws : List Cond} {rm : Room} {h h' : PH} {av : List Value}
theorem zc_o {o o' : String ⊕ Option Value} (c : CMet l y ws rm h av o h') (e : o = o') : CMet l y ws rm h av o' h' := by rw [← e]; exact c
end
section ROWS2
variable {X : PX} {cc : ByteArray} {own nm : String} {nL : Nat} {rm : Room} {ret : Option FieldType} {k n pc : Nat} {lv : List (Nat × Value)} {st st0 : List Value} {h h' : PH} {rmc : Room} {av : List Value} {o : String ⊕ Option Value}
theorem z_kR2 (E : z_E X cc own nm nL rm ret) {v : Value} (k' n' : Nat) (R : z_Run X nL k n pc rmc st0 st av h (.inr (some v)) h') (hst : st0 = av.reverse ++ st) (hk : k + rmc.cells = k') (hn : n + rmc.slots = n') (kk : WP X nL k' n' (pc + 3) lv (v :: st) h') : WP X nL k n pc lv st0 h := by
  subst hk; subst hn
  exact z_kR E R hst kk
theorem z_kV2 (E : z_E X cc own nm nL rm ret) (k' n' : Nat) (R : z_Run X nL k n pc rmc st0 st av h (.inr none) h') (hst : st0 = av.reverse ++ st) (hk : k + rmc.cells = k') (hn : n + rmc.slots = n') (kk : WP X nL k' n' (pc + 3) lv st h') : WP X nL k n pc lv st0 h := by
  subst hk; subst hn
  exact z_kV E R hst kk
theorem z_kX2 (E : z_E X cc own nm nL rm ret) {Ex : String} (k' n' : Nat) (R : z_Run X nL k n pc rmc st0 st av h (.inl Ex) h') (hst : st0 = av.reverse ++ st) (hk : k + rmc.cells = k') (hn : n + rmc.slots = n') (kk : WPX X nL k' n' pc lv h' Ex) : WP X nL k n pc lv st0 h := by
  subst hk; subst hn
  exact z_kX E R hst kk
theorem z_kn (k' n' : Nat) (hk : k = k') (hn : n = n') (kk : WP X nL k' n' pc lv st h) : WP X nL k n pc lv st h := by
  subst hk; subst hn
  exact kk
theorem z_astoreN_n (E : z_E X cc own nm nL rm ret) {i : Fin 4} {lv2 : List (Nat × Value)} (d : decode cc pc = .ok (.astore_n i, 1)) (hn : (i : Nat) < nL) (hl : ((i : Nat), Value.null) :: lv.filter (fun q => !(q.1 == (i : Nat)) && !(q.1 + 1 == (i : Nat) && q.2.category == 2)) = lv2) (kk : WP X nL k n (pc + 1) lv2 st h) : WP X nL k n pc lv (.null :: st) h := by
  obtain ⟨⟨p, l, e, R, s, m, args, below, meth, c⟩, D, cT, A, Q, ρ0, h0⟩ := X
  intro ρ H locs ls hI a1 a2 hL
  exact lv_astore_nN E.1 E.2.1 d rfl hL hn (z_lm_set1 hl) (fun ls2 hL2 => kk ρ H locs ls2 hI (z_ok_set hl (z_ok_hd a2) a1) (z_ok_tl a2) hL2)
theorem z_astoreN (E : z_E X cc own nm nL rm ret) {i : Nat} {lv2 : List (Nat × Value)} (d : decode cc pc = .ok (.astore i, 2)) (hn : i < nL) (hl : (i, Value.null) :: lv.filter (fun q => !(q.1 == i) && !(q.1 + 1 == i && q.2.category == 2)) = lv2) (kk : WP X nL k n (pc + 2) lv2 st h) : WP X nL k n pc lv (.null :: st) h := by
  obtain ⟨⟨p, l, e, R, s, m, args, below, meth, c⟩, D, cT, A, Q, ρ0, h0⟩ := X
  intro ρ H locs ls hI a1 a2 hL
  exact lv_astoreN E.1 E.2.1 d hL hn (z_lm_set1 hl) (fun ls2 hL2 => kk ρ H locs ls2 hI (z_ok_set hl (z_ok_hd a2) a1) (z_ok_tl a2) hL2)
/-- an array's length, a constant's or another's -/
def alA (ty : FieldType) (h : PH) (a : Nat) : Option Int32 := match h.2 a with
  | .inl (t, x) => if t = ty then some (Int32.ofNat x.1) else none
  | _ => none
theorem z_alA_spec {ty : FieldType} {h : PH} {a : Nat} {x : Int32} (hr : alA ty h a = some x) : ∃ y : vp_A, h.2 a = .inl (ty, y) ∧ Int32.ofNat y.1 = x := by
  unfold alA at hr
  split at hr
  · rename_i t y hc
    split at hr
    · rename_i q
      cases hr
      subst q
      exact ⟨y, hc, rfl⟩
    · cases hr
  · cases hr
theorem z_alenA (E : z_E X cc own nm nL rm ret) {ty : FieldType} (t0 : Nat) (ht0 : ∀ cT : FieldType → ClassId, (z_tys cT)[t0]? = some (cT ty, ty)) {a : Nat} {x : Int32} (d : decode cc pc = .ok (.arraylength, 1)) (hr : alA ty h a = some x) (kk : WP X nL k n (pc + 1) lv (.int x :: st) h) : WP X nL k n pc lv (.ref a :: st) h := by
  obtain ⟨y, hc, hx⟩ := z_alA_spec hr
  by_cases hk : kK ≤ a
  · exact z_alen E t0 ht0 d (by unfold aln; rw [if_pos hk, hc]; simp [hx]) kk
  · obtain ⟨⟨p, l, e, R, s, m, args, below, meth, c⟩, D, cT, A, Q, ρ0, h0⟩ := X
    intro ρ H locs ls hI a1 a2 hL
    obtain ⟨g1, g2, g3, g4, g5, g6, g7, g8, g9, g10, g11, g12⟩ := E
    obtain ⟨i1, i2, i3, i4, i5, i6, i7⟩ := id hI
    have o := i6 a (by omega)
    rw [hc] at o
    exact va_tlen (N := y.1) g1 g2 o i3 hx d (kk ρ H locs ls hI a1 (z_ok_cons trivial (z_ok_tl a2)) hL)
theorem z_sw {x : Int32} {lo hi : Int} (h : ¬ (x.toInt < lo ∨ hi < x.toInt)) : ¬ x.toInt < lo ∧ ¬ hi < x.toInt := ⟨fun q => h (Or.inl q), fun q => h (Or.inr q)⟩
end ROWS2
section PURE2
theorem os_l {α β γ : Type} {f : α → γ} {g : β → γ} {s : α ⊕ β} {r : γ} {q : α} (e : Sum.elim f g s = r) (c : s = .inl q) : f q = r := by subst c; exact e
theorem os_r {α β γ : Type} {f : α → γ} {g : β → γ} {s : α ⊕ β} {r : γ} {q : β} (e : Sum.elim f g s = r) (c : s = .inr q) : g q = r := by subst c; exact e
theorem z_n64 {x y : UInt64} (h : n64 x = some y) : y = x ∧ vf_n64 x := by
  unfold n64 at h
  split at h
  · rename_i q
    cases h
    exact ⟨rfl, q⟩
  · cases h
theorem z_n32 {x y : UInt32} (h : n32 x = some y) : y = x ∧ vf_n32 x := by
  unfold n32 at h
  split at h
  · rename_i q
    cases h
    exact ⟨rfl, q⟩
  · cases h
theorem z_znb {x y : Int32} (h : zn .boolean x = some y) : x = zb (y == 1) ∧ narrow .boolean (.int x) = .int x := by
  obtain ⟨rfl, h1, h2⟩ := z_zn h
  refine ⟨?_, h1⟩
  have h3 : y &&& 1 = y := by
    have h4 : Value.int (y &&& 1) = .int y := h1
    injection h4
  by_cases c : y = 1
  · subst c; rfl
  · have : (y == 1) = false := by simpa using c
    rw [this]
    show y = 0
    rw [← h3] at c ⊢
    have key : ∀ z : Int32, ¬ z &&& 1 = 1 → z &&& 1 = 0 := by
      intro z hz
      have e1 : (z &&& 1).toBitVec = z.toBitVec &&& 1#32 := by rfl
      have e2 : z.toBitVec &&& 1#32 = 0#32 ∨ z.toBitVec &&& 1#32 = 1#32 := by
        rw [BitVec.and_one_eq_setWidth_ofBool_getLsbD]
        cases z.toBitVec.getLsbD 0
        · left; rfl
        · right; rfl
      rcases e2 with q | q
      · exact Int32.toBitVec_inj.mp (e1.trans q)
      · exact absurd (Int32.toBitVec_inj.mp (show (z &&& 1).toBitVec = (1 : Int32).toBitVec from e1.trans q)) hz
    exact key y c
theorem zka {k B c f m a : Nat} (h : k + (f + 1) * c ≤ B) (hB : B ≤ m) (q : a ≤ c) : k + a ≤ m := by
  have : (f + 1) * c = f * c + c := Nat.succ_mul f c
  omega
def FU : Nat := 4096
end PURE2
section DFL
theorem z_dfl (fs : List Value) (h : (fs.all fun v => match v with | .ref _ => false | _ => true) = true) : ∀ v ∈ fs, (∀ ρ : Nat → Nat, z_tr ρ v = v) ∧ ∀ n : Nat, z_okV n v := by
  intro v hv
  have := List.all_eq_true.mp h v hv
  cases v <;> first | exact ⟨fun _ => rfl, fun _ => trivial⟩ | (simp at this)
end DFL
