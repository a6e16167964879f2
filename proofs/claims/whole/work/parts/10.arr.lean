theorem z_alI_spec {ty : FieldType} {h : PH} {a : Nat} {i x : Int32} (hr : alI ty h a i = some x) : ∃ (n : Nat) (f : Nat → Int32), h.2 a = .inl (ty, n, .inl f) ∧ vp_in i n ∧ x = f i.toNatClampNeg := by
  unfold alI at hr
  split at hr
  · rename_i t n f hc
    split at hr
    · rename_i q
      cases hr
      obtain ⟨rfl, h3⟩ := q
      exact ⟨n, f, hc, h3, rfl⟩
    · cases hr
  · cases hr
theorem z_asI_spec {ty : FieldType} {h h2 : PH} {a : Nat} {i x : Int32} (hr : asI ty h a i x = some h2) : kK ≤ a ∧ ∃ (n : Nat) (f : Nat → Int32), h.2 a = .inl (ty, n, .inl f) ∧ vp_in i n ∧ h2 = (h.1, z_up h.2 a (.inl (ty, n, .inl (upd f i.toNatClampNeg (vp_nar ty x))))) := by
  unfold asI at hr
  split at hr
  · rename_i hk
    split at hr
    · rename_i t n f hc
      split at hr
      · rename_i q
        cases hr
        obtain ⟨rfl, h3⟩ := q
        exact ⟨hk, n, f, hc, h3, rfl⟩
      · cases hr
    · cases hr
  · cases hr
theorem z_iald {X : PX} {cc : ByteArray} {own nm : String} {nL : Nat} {rm : Room} {ret : Option FieldType} (E : z_E X cc own nm nL rm ret) {k n pc : Nat} {lv : List (Nat × Value)} {st : List Value} {h : PH} {a : Nat} {i x : Int32} (d : decode cc pc = .ok (.iaload, 1)) (hr : alI .int h a i = some x) (kk : WP X nL k n (pc + 1) lv (.int x :: st) h) : WP X nL k n pc lv (.int i :: .ref a :: st) h := by
  obtain ⟨N, f, hc, hin, rfl⟩ := z_alI_spec hr
  obtain ⟨⟨p, l, e, R, s, m, args, below, meth, c⟩, D, cT, A, Q, ρ0, h0⟩ := X
  intro ρ H locs ls hI a1 a2 hL
  obtain ⟨g1, g2, g3, g4, g5, g6, g7, g8, g9, g10, g11, g12⟩ := E
  obtain ⟨i1, i2, i3, i4, i5, i6, i7⟩ := id hI
  have ha : a < h.1 := z_ok_hd (z_ok_tl a2)
  have k2 := kk ρ H locs ls hI a1 (z_ok_cons trivial (z_ok_tl (z_ok_tl a2))) hL
  by_cases hk : kK ≤ a
  · exact va_iald (D := D) (cl := vwCl) (tys := z_tys cT) (ws := z_wsOf cT ρ h) g1 g2 g6 i1 (a - kK) 0 (by rw [z_ws_at hk ha, hc]; rfl) rfl hin d k2
  · have o := i6 a (by omega)
    rw [hc] at o
    exact va_ti (N := N) g1 g2 o i3 hin rfl d k2
theorem z_iast {X : PX} {cc : ByteArray} {own nm : String} {nL : Nat} {rm : Room} {ret : Option FieldType} (E : z_E X cc own nm nL rm ret) {k n pc : Nat} {lv : List (Nat × Value)} {st : List Value} {h : PH} {a : Nat} {i x : Int32} {h2 : PH} (d : decode cc pc = .ok (.iastore, 1)) (hr : asI .int h a i x = some h2) (kk : WP X nL k n (pc + 1) lv st h2) : WP X nL k n pc lv (.int x :: .int i :: .ref a :: st) h := by
  obtain ⟨hk, N, f, hc, hin, rfl⟩ := z_asI_spec hr
  obtain ⟨⟨p, l, e, R, s, m, args, below, meth, c⟩, D, cT, A, Q, ρ0, h0⟩ := X
  intro ρ H locs ls hI a1 a2 hL
  obtain ⟨g1, g2, g3, g4, g5, g6, g7, g8, g9, g10, g11, g12⟩ := E
  obtain ⟨i1, i2, i3, i4, i5, i6, i7⟩ := id hI
  have ha : a < h.1 := z_ok_hd (z_ok_tl (z_ok_tl a2))
  refine va_iast (D := D) (cl := vwCl) (tys := z_tys cT) (ws := z_wsOf cT ρ h) g1 g2 g6 i1 i2 i3 (a - kK) 0 (f := f) (n := N) (cA := cT .int) (by rw [z_ws_at hk ha, hc]; rfl) rfl hin d (fun H1 locs1 q1 q2 q3 => ?_)
  exact kk ρ H1 locs1 ls (z_In_set (cl := .inl (.int, N, .inl (upd f i.toNatClampNeg (vp_nar .int x)))) hI hk trivial q1 q2 q3) a1 (z_ok_tl (z_ok_tl (z_ok_tl a2))) hL
theorem z_cald {X : PX} {cc : ByteArray} {own nm : String} {nL : Nat} {rm : Room} {ret : Option FieldType} (E : z_E X cc own nm nL rm ret) {k n pc : Nat} {lv : List (Nat × Value)} {st : List Value} {h : PH} {a : Nat} {i x : Int32} (d : decode cc pc = .ok (.caload, 1)) (hr : alI .char h a i = some x) (kk : WP X nL k n (pc + 1) lv (.int x :: st) h) : WP X nL k n pc lv (.int i :: .ref a :: st) h := by
  obtain ⟨N, f, hc, hin, rfl⟩ := z_alI_spec hr
  obtain ⟨⟨p, l, e, R, s, m, args, below, meth, c⟩, D, cT, A, Q, ρ0, h0⟩ := X
  intro ρ H locs ls hI a1 a2 hL
  obtain ⟨g1, g2, g3, g4, g5, g6, g7, g8, g9, g10, g11, g12⟩ := E
  obtain ⟨i1, i2, i3, i4, i5, i6, i7⟩ := id hI
  have ha : a < h.1 := z_ok_hd (z_ok_tl a2)
  have k2 := kk ρ H locs ls hI a1 (z_ok_cons trivial (z_ok_tl (z_ok_tl a2))) hL
  by_cases hk : kK ≤ a
  · exact va_cald (D := D) (cl := vwCl) (tys := z_tys cT) (ws := z_wsOf cT ρ h) g1 g2 g6 i1 (a - kK) 1 (by rw [z_ws_at hk ha, hc]; rfl) rfl hin d k2
  · have o := i6 a (by omega)
    rw [hc] at o
    exact va_tc (N := N) g1 g2 o i3 hin rfl d k2
theorem z_cast {X : PX} {cc : ByteArray} {own nm : String} {nL : Nat} {rm : Room} {ret : Option FieldType} (E : z_E X cc own nm nL rm ret) {k n pc : Nat} {lv : List (Nat × Value)} {st : List Value} {h : PH} {a : Nat} {i x : Int32} {h2 : PH} (d : decode cc pc = .ok (.castore, 1)) (hr : asI .char h a i x = some h2) (kk : WP X nL k n (pc + 1) lv st h2) : WP X nL k n pc lv (.int x :: .int i :: .ref a :: st) h := by
  obtain ⟨hk, N, f, hc, hin, rfl⟩ := z_asI_spec hr
  obtain ⟨⟨p, l, e, R, s, m, args, below, meth, c⟩, D, cT, A, Q, ρ0, h0⟩ := X
  intro ρ H locs ls hI a1 a2 hL
  obtain ⟨g1, g2, g3, g4, g5, g6, g7, g8, g9, g10, g11, g12⟩ := E
  obtain ⟨i1, i2, i3, i4, i5, i6, i7⟩ := id hI
  have ha : a < h.1 := z_ok_hd (z_ok_tl (z_ok_tl a2))
  refine va_cast (D := D) (cl := vwCl) (tys := z_tys cT) (ws := z_wsOf cT ρ h) g1 g2 g6 i1 i2 i3 (a - kK) 1 (f := f) (n := N) (cA := cT .char) (by rw [z_ws_at hk ha, hc]; rfl) rfl hin d (fun H1 locs1 q1 q2 q3 => ?_)
  exact kk ρ H1 locs1 ls (z_In_set (cl := .inl (.char, N, .inl (upd f i.toNatClampNeg (vp_nar .char x)))) hI hk trivial q1 q2 q3) a1 (z_ok_tl (z_ok_tl (z_ok_tl a2))) hL
theorem z_bald {X : PX} {cc : ByteArray} {own nm : String} {nL : Nat} {rm : Room} {ret : Option FieldType} (E : z_E X cc own nm nL rm ret) {k n pc : Nat} {lv : List (Nat × Value)} {st : List Value} {h : PH} {a : Nat} {i x : Int32} (d : decode cc pc = .ok (.baload, 1)) (hr : alI .byte h a i = some x) (kk : WP X nL k n (pc + 1) lv (.int x :: st) h) : WP X nL k n pc lv (.int i :: .ref a :: st) h := by
  obtain ⟨N, f, hc, hin, rfl⟩ := z_alI_spec hr
  obtain ⟨⟨p, l, e, R, s, m, args, below, meth, c⟩, D, cT, A, Q, ρ0, h0⟩ := X
  intro ρ H locs ls hI a1 a2 hL
  obtain ⟨g1, g2, g3, g4, g5, g6, g7, g8, g9, g10, g11, g12⟩ := E
  obtain ⟨i1, i2, i3, i4, i5, i6, i7⟩ := id hI
  have ha : a < h.1 := z_ok_hd (z_ok_tl a2)
  have k2 := kk ρ H locs ls hI a1 (z_ok_cons trivial (z_ok_tl (z_ok_tl a2))) hL
  by_cases hk : kK ≤ a
  · exact va_bald (D := D) (cl := vwCl) (tys := z_tys cT) (ws := z_wsOf cT ρ h) g1 g2 g6 i1 (a - kK) 2 (by rw [z_ws_at hk ha, hc]; rfl) rfl hin d k2
  · have o := i6 a (by omega)
    rw [hc] at o
    exact va_tb (N := N) g1 g2 o i3 hin rfl d k2
theorem z_bast {X : PX} {cc : ByteArray} {own nm : String} {nL : Nat} {rm : Room} {ret : Option FieldType} (E : z_E X cc own nm nL rm ret) {k n pc : Nat} {lv : List (Nat × Value)} {st : List Value} {h : PH} {a : Nat} {i x : Int32} {h2 : PH} (d : decode cc pc = .ok (.bastore, 1)) (hr : asI .byte h a i x = some h2) (kk : WP X nL k n (pc + 1) lv st h2) : WP X nL k n pc lv (.int x :: .int i :: .ref a :: st) h := by
  obtain ⟨hk, N, f, hc, hin, rfl⟩ := z_asI_spec hr
  obtain ⟨⟨p, l, e, R, s, m, args, below, meth, c⟩, D, cT, A, Q, ρ0, h0⟩ := X
  intro ρ H locs ls hI a1 a2 hL
  obtain ⟨g1, g2, g3, g4, g5, g6, g7, g8, g9, g10, g11, g12⟩ := E
  obtain ⟨i1, i2, i3, i4, i5, i6, i7⟩ := id hI
  have ha : a < h.1 := z_ok_hd (z_ok_tl (z_ok_tl a2))
  refine va_bast (D := D) (cl := vwCl) (tys := z_tys cT) (ws := z_wsOf cT ρ h) g1 g2 g6 i1 i2 i3 (a - kK) 2 (f := f) (n := N) (cA := cT .byte) (by rw [z_ws_at hk ha, hc]; rfl) rfl hin d (fun H1 locs1 q1 q2 q3 => ?_)
  exact kk ρ H1 locs1 ls (z_In_set (cl := .inl (.byte, N, .inl (upd f i.toNatClampNeg (vp_nar .byte x)))) hI hk trivial q1 q2 q3) a1 (z_ok_tl (z_ok_tl (z_ok_tl a2))) hL
theorem z_alL_spec {h : PH} {a : Nat} {i : Int32} {x : Int64} (hr : alL h a i = some x) : kK ≤ a ∧ ∃ (n : Nat) (f : Nat → Int64), h.2 a = .inl (.long, n, .inr (.inl f)) ∧ vp_in i n ∧ x = f i.toNatClampNeg := by
  unfold alL at hr
  split at hr
  · rename_i hk
    split at hr
    · rename_i t n f hc
      split at hr
      · rename_i q
        cases hr
        obtain ⟨rfl, h3⟩ := q
        exact ⟨hk, n, f, hc, h3, rfl⟩
      · cases hr
    · cases hr
  · cases hr
theorem z_asL_spec {h h2 : PH} {a : Nat} {i : Int32} {x : Int64} (hr : asL h a i x = some h2) : kK ≤ a ∧ ∃ (n : Nat) (f : Nat → Int64), h.2 a = .inl (.long, n, .inr (.inl f)) ∧ vp_in i n ∧ h2 = (h.1, z_up h.2 a (.inl (.long, n, .inr (.inl (vp_updL f i.toNatClampNeg x))))) := by
  unfold asL at hr
  split at hr
  · rename_i hk
    split at hr
    · rename_i t n f hc
      split at hr
      · rename_i q
        cases hr
        obtain ⟨rfl, h3⟩ := q
        exact ⟨hk, n, f, hc, h3, rfl⟩
      · cases hr
    · cases hr
  · cases hr
theorem z_alD_spec {h : PH} {a : Nat} {i : Int32} {x : UInt64} (hr : alD h a i = some x) : kK ≤ a ∧ ∃ (n : Nat) (f : Nat → UInt64), h.2 a = .inl (.double, n, .inr (.inr (.inr (.inl f)))) ∧ vp_in i n ∧ x = f i.toNatClampNeg := by
  unfold alD at hr
  split at hr
  · rename_i hk
    split at hr
    · rename_i t n f hc
      split at hr
      · rename_i q
        cases hr
        obtain ⟨rfl, h3⟩ := q
        exact ⟨hk, n, f, hc, h3, rfl⟩
      · cases hr
    · cases hr
  · cases hr
theorem z_asD_spec {h h2 : PH} {a : Nat} {i : Int32} {x : UInt64} (hr : asD h a i x = some h2) : kK ≤ a ∧ ∃ (n : Nat) (f : Nat → UInt64), h.2 a = .inl (.double, n, .inr (.inr (.inr (.inl f)))) ∧ vp_in i n ∧ h2 = (h.1, z_up h.2 a (.inl (.double, n, .inr (.inr (.inr (.inl (vf_upd f i.toNatClampNeg x))))))) := by
  unfold asD at hr
  split at hr
  · rename_i hk
    split at hr
    · rename_i t n f hc
      split at hr
      · rename_i q
        cases hr
        obtain ⟨rfl, h3⟩ := q
        exact ⟨hk, n, f, hc, h3, rfl⟩
      · cases hr
    · cases hr
  · cases hr
theorem z_alQ_spec {h : PH} {a : Nat} {i : Int32} {x : Option Nat} (hr : alQ h a i = some x) : kK ≤ a ∧ ∃ (n : Nat) (f : Nat → Option Nat), h.2 a = .inl (tyS, n, .inr (.inr (.inr (.inr f)))) ∧ vp_in i n ∧ x = f i.toNatClampNeg := by
  unfold alQ at hr
  split at hr
  · rename_i hk
    split at hr
    · rename_i t n f hc
      split at hr
      · rename_i q
        cases hr
        obtain ⟨rfl, h3⟩ := q
        exact ⟨hk, n, f, hc, h3, rfl⟩
      · cases hr
    · cases hr
  · cases hr
theorem z_asQ_spec {ci : Nat} {h h2 : PH} {a : Nat} {i : Int32} {x : Nat} (hr : asQ ci h a i x = some h2) : kK ≤ a ∧ kK ≤ x ∧ ∃ (n : Nat) (f : Nat → Option Nat) (fs : List Value), h.2 a = .inl (tyS, n, .inr (.inr (.inr (.inr f)))) ∧ h.2 x = .inr (ci, fs) ∧ vp_in i n ∧ h2 = (h.1, z_up h.2 a (.inl (tyS, n, .inr (.inr (.inr (.inr (va_up f i.toNatClampNeg (some x)))))))) := by
  unfold asQ at hr
  split at hr
  · rename_i hk
    split at hr
    · rename_i t n f hc
      split at hr
      · rename_i q hq
        split at hr
        · rename_i q2
          cases hr
          obtain ⟨rfl, rfl, h3⟩ := q2
          exact ⟨hk.1, hk.2, n, f, q.2, hc, hq, h3, rfl⟩
        · cases hr
      · cases hr
    · cases hr
  · cases hr
theorem z_cpI_spec {ty : FieldType} {h h2 : PH} {a b : Nat} {sp dp n : Int32} (hr : cpI ty h a sp b dp n = some h2) : kK ≤ a ∧ kK ≤ b ∧ ∃ (n0 n1 : Nat) (f g : Nat → Int32), h.2 a = .inl (ty, n0, .inl f) ∧ h.2 b = .inl (ty, n1, .inl g) ∧ ¬ sp < 0 ∧ ¬ dp < 0 ∧ ¬ n < 0 ∧ sp.toNatClampNeg + n.toNatClampNeg ≤ n0 ∧ dp.toNatClampNeg + n.toNatClampNeg ≤ n1 ∧ (∀ i, i < n.toNatClampNeg → fits ty (.int (f (sp.toNatClampNeg + i))) = true) ∧ h2 = (h.1, z_up h.2 b (.inl (ty, n1, .inl (va_cpy f g sp.toNatClampNeg dp.toNatClampNeg n.toNatClampNeg)))) := by
  unfold cpI at hr
  split at hr
  · rename_i hk
    split at hr
    · rename_i t0 n0 f hc
      split at hr
      · rename_i t1 n1 g hq
        split at hr
        · rename_i q2
          cases hr
          obtain ⟨rfl, h1, h3, h4, h5, h6, h7, h8⟩ := q2
          subst h1
          exact ⟨hk.1, hk.2, n0, n1, f, g, hc, hq, h3, h4, h5, h6, h7, fun i hi => List.all_eq_true.mp h8 i (List.mem_range.mpr hi), rfl⟩
        · cases hr
      · cases hr
    · cases hr
  · cases hr
theorem z_lald {X : PX} {cc : ByteArray} {own nm : String} {nL : Nat} {rm : Room} {ret : Option FieldType} (E : z_E X cc own nm nL rm ret) {k n pc : Nat} {lv : List (Nat × Value)} {st : List Value} {h : PH} {a : Nat} {i : Int32} {x : Int64} (d : decode cc pc = .ok (.laload, 1)) (hr : alL h a i = some x) (kk : WP X nL k n (pc + 1) lv (.long x :: st) h) : WP X nL k n pc lv (.int i :: .ref a :: st) h := by
  obtain ⟨hk, N, f, hc, hin, rfl⟩ := z_alL_spec hr
  obtain ⟨⟨p, l, e, R, s, m, args, below, meth, c⟩, D, cT, A, Q, ρ0, h0⟩ := X
  intro ρ H locs ls hI a1 a2 hL
  obtain ⟨g1, g2, g3, g4, g5, g6, g7, g8, g9, g10, g11, g12⟩ := E
  obtain ⟨i1, i2, i3, i4, i5, i6, i7⟩ := id hI
  have ha : a < h.1 := z_ok_hd (z_ok_tl a2)
  exact va_lald (D := D) (cl := vwCl) (tys := z_tys cT) (ws := z_wsOf cT ρ h) g1 g2 g6 i1 (a - kK) 3 (by rw [z_ws_at hk ha, hc]; rfl) rfl hin d (kk ρ H locs ls hI a1 (z_ok_cons trivial (z_ok_tl (z_ok_tl a2))) hL)
theorem z_last {X : PX} {cc : ByteArray} {own nm : String} {nL : Nat} {rm : Room} {ret : Option FieldType} (E : z_E X cc own nm nL rm ret) {k n pc : Nat} {lv : List (Nat × Value)} {st : List Value} {h : PH} {a : Nat} {i : Int32} {x : Int64} {h2 : PH} (d : decode cc pc = .ok (.lastore, 1)) (hr : asL h a i x = some h2) (kk : WP X nL k n (pc + 1) lv st h2) : WP X nL k n pc lv (.long x :: .int i :: .ref a :: st) h := by
  obtain ⟨hk, N, f, hc, hin, rfl⟩ := z_asL_spec hr
  obtain ⟨⟨p, l, e, R, s, m, args, below, meth, c⟩, D, cT, A, Q, ρ0, h0⟩ := X
  intro ρ H locs ls hI a1 a2 hL
  obtain ⟨g1, g2, g3, g4, g5, g6, g7, g8, g9, g10, g11, g12⟩ := E
  obtain ⟨i1, i2, i3, i4, i5, i6, i7⟩ := id hI
  have ha : a < h.1 := z_ok_hd (z_ok_tl (z_ok_tl a2))
  refine va_last (D := D) (cl := vwCl) (tys := z_tys cT) (ws := z_wsOf cT ρ h) g1 g2 g6 i1 i2 i3 (a - kK) 3 (f := f) (n := N) (cA := cT .long) (by rw [z_ws_at hk ha, hc]; rfl) rfl hin d (fun H1 locs1 q1 q2 q3 => ?_)
  exact kk ρ H1 locs1 ls (z_In_set (cl := .inl (.long, N, .inr (.inl (vp_updL f i.toNatClampNeg x)))) hI hk trivial q1 q2 q3) a1 (z_ok_tl (z_ok_tl (z_ok_tl a2))) hL
theorem z_dald {X : PX} {cc : ByteArray} {own nm : String} {nL : Nat} {rm : Room} {ret : Option FieldType} (E : z_E X cc own nm nL rm ret) {k n pc : Nat} {lv : List (Nat × Value)} {st : List Value} {h : PH} {a : Nat} {i : Int32} {x : UInt64} (d : decode cc pc = .ok (.daload, 1)) (hr : alD h a i = some x) (kk : WP X nL k n (pc + 1) lv (.double x :: st) h) : WP X nL k n pc lv (.int i :: .ref a :: st) h := by
  obtain ⟨hk, N, f, hc, hin, rfl⟩ := z_alD_spec hr
  obtain ⟨⟨p, l, e, R, s, m, args, below, meth, c⟩, D, cT, A, Q, ρ0, h0⟩ := X
  intro ρ H locs ls hI a1 a2 hL
  obtain ⟨g1, g2, g3, g4, g5, g6, g7, g8, g9, g10, g11, g12⟩ := E
  obtain ⟨i1, i2, i3, i4, i5, i6, i7⟩ := id hI
  have ha : a < h.1 := z_ok_hd (z_ok_tl a2)
  exact va_dald (D := D) (cl := vwCl) (tys := z_tys cT) (ws := z_wsOf cT ρ h) g1 g2 g6 i1 (a - kK) 4 (by rw [z_ws_at hk ha, hc]; rfl) rfl hin d (kk ρ H locs ls hI a1 (z_ok_cons trivial (z_ok_tl (z_ok_tl a2))) hL)
theorem z_dast {X : PX} {cc : ByteArray} {own nm : String} {nL : Nat} {rm : Room} {ret : Option FieldType} (E : z_E X cc own nm nL rm ret) {k n pc : Nat} {lv : List (Nat × Value)} {st : List Value} {h : PH} {a : Nat} {i : Int32} {x : UInt64} {h2 : PH} (d : decode cc pc = .ok (.dastore, 1)) (hr : asD h a i x = some h2) (kk : WP X nL k n (pc + 1) lv st h2) : WP X nL k n pc lv (.double x :: .int i :: .ref a :: st) h := by
  obtain ⟨hk, N, f, hc, hin, rfl⟩ := z_asD_spec hr
  obtain ⟨⟨p, l, e, R, s, m, args, below, meth, c⟩, D, cT, A, Q, ρ0, h0⟩ := X
  intro ρ H locs ls hI a1 a2 hL
  obtain ⟨g1, g2, g3, g4, g5, g6, g7, g8, g9, g10, g11, g12⟩ := E
  obtain ⟨i1, i2, i3, i4, i5, i6, i7⟩ := id hI
  have ha : a < h.1 := z_ok_hd (z_ok_tl (z_ok_tl a2))
  refine va_dast (D := D) (cl := vwCl) (tys := z_tys cT) (ws := z_wsOf cT ρ h) g1 g2 g6 i1 i2 i3 (a - kK) 4 (f := f) (n := N) (cA := cT .double) (by rw [z_ws_at hk ha, hc]; rfl) rfl hin d (fun H1 locs1 q1 q2 q3 => ?_)
  exact kk ρ H1 locs1 ls (z_In_set (cl := .inl (.double, N, .inr (.inr (.inr (.inl (vf_upd f i.toNatClampNeg x)))))) hI hk trivial q1 q2 q3) a1 (z_ok_tl (z_ok_tl (z_ok_tl a2))) hL
theorem z_aald {X : PX} {cc : ByteArray} {own nm : String} {nL : Nat} {rm : Room} {ret : Option FieldType} (E : z_E X cc own nm nL rm ret) {k n pc : Nat} {lv : List (Nat × Value)} {st : List Value} {h : PH} {a : Nat} {i : Int32} {x : Option Nat} (d : decode cc pc = .ok (.aaload, 1)) (hr : alQ h a i = some x) (kk : WP X nL k n (pc + 1) lv (va_rf x :: st) h) : WP X nL k n pc lv (.int i :: .ref a :: st) h := by
  obtain ⟨hk, N, f, hc, hin, rfl⟩ := z_alQ_spec hr
  obtain ⟨⟨p, l, e, R, s, m, args, below, meth, c⟩, D, cT, A, Q, ρ0, h0⟩ := X
  intro ρ H locs ls hI a1 a2 hL
  obtain ⟨g1, g2, g3, g4, g5, g6, g7, g8, g9, g10, g11, g12⟩ := E
  obtain ⟨i1, i2, i3, i4, i5, i6, i7⟩ := id hI
  have ha : a < h.1 := z_ok_hd (z_ok_tl a2)
  have hok : z_okV h.1 (va_rf (f i.toNatClampNeg)) := by
    cases ef : f i.toNatClampNeg with
    | none => trivial
    | some b =>
      have := i5 a ha
      rw [hc] at this
      exact this _ b ef
  have k2 := kk ρ H locs ls hI a1 (z_ok_cons hok (z_ok_tl (z_ok_tl a2))) hL
  refine va_aldq (D := D) (cl := vwCl) (tys := z_tys cT) (ws := z_wsOf cT ρ h) (f := fun j => (f j).map ρ) (n := N) (cA := cT tyS) g1 g2 g6 i1 (a - kK) 5 (by rw [z_ws_at hk ha, hc]; rfl) rfl hin d ?_
  have e9 : va_rf ((f i.toNatClampNeg).map ρ) = z_tr ρ (va_rf (f i.toNatClampNeg)) := by cases f i.toNatClampNeg <;> rfl
  show W p l e R s m args below meth c H locs k n Q (F0 m (pc + 1) ls (va_rf ((f i.toNatClampNeg).map ρ) :: st.map (z_tr ρ)))
  rw [e9]
  exact k2
theorem z_aast {X : PX} {cc : ByteArray} {own nm : String} {nL : Nat} {rm : Room} {ret : Option FieldType} (E : z_E X cc own nm nL rm ret) {k n pc : Nat} {lv : List (Nat × Value)} {st : List Value} {h : PH} {ci a b : Nat} {i : Int32} {T : u_T} {N1 : Nat} (hci : vwCl[ci]? = some ("FootnoteFishery$State", T, N1)) {h2 : PH} (d : decode cc pc = .ok (.aastore, 1)) (hr : asQ ci h a i b = some h2) (kk : WP X nL k n (pc + 1) lv st h2) : WP X nL k n pc lv (.ref b :: .int i :: .ref a :: st) h := by
  obtain ⟨hk, hkb, N, f, fs, hc, hcb, hin, rfl⟩ := z_asQ_spec hr
  obtain ⟨⟨p, l, e, R, s, m, args, below, meth, c⟩, D, cT, A, Q, ρ0, h0⟩ := X
  intro ρ H locs ls hI a1 a2 hL
  obtain ⟨g1, g2, g3, g4, g5, g6, g7, g8, g9, g10, g11, g12⟩ := E
  obtain ⟨i1, i2, i3, i4, i5, i6, i7⟩ := id hI
  have ha : a < h.1 := z_ok_hd (z_ok_tl (z_ok_tl a2))
  have hb : b < h.1 := z_ok_hd a2
  have hok : z_okC h.1 (.inl (tyS, N, .inr (.inr (.inr (.inr (va_up f i.toNatClampNeg (some b))))))) := by
    intro j q hq
    have o := i5 a ha
    rw [hc] at o
    have hq : va_up f i.toNatClampNeg (some b) j = some q := hq
    unfold va_up at hq
    split at hq
    · cases hq; exact hb
    · exact o j q hq
  have e9 : (fun j => ((va_up f i.toNatClampNeg (some b)) j).map ρ) = va_up (fun j => (f j).map ρ) i.toNatClampNeg (some (ρ b)) := by
    funext j
    unfold va_up
    split <;> rfl
  refine va_astq (D := D) (cl := vwCl) (tys := z_tys cT) (ws := z_wsOf cT ρ h) (f := fun j => (f j).map ρ) (n := N) (cA := cT tyS) (r := ("FootnoteFishery$State", T, N1)) (vs := fs.map (z_tr ρ)) g1 g2 g6 i1 i2 i3 (a - kK) 5 (b - kK) ci (by rw [z_ws_at hk ha, hc]; rfl) rfl (by rw [z_ws_at hkb hb, hcb]; rfl) hci hin d (fun H1 locs1 q1 q2 q3 => ?_)
  rw [← e9] at q1 q2
  exact kk ρ H1 locs1 ls (z_In_set (cl := .inl (tyS, N, .inr (.inr (.inr (.inr (va_up f i.toNatClampNeg (some b))))))) hI hk hok q1 q2 q3) a1 (z_ok_tl (z_ok_tl (z_ok_tl a2))) hL
theorem z_alen {X : PX} {cc : ByteArray} {own nm : String} {nL : Nat} {rm : Room} {ret : Option FieldType} (E : z_E X cc own nm nL rm ret) {k n pc : Nat} {lv : List (Nat × Value)} {st : List Value} {h : PH} {ty : FieldType} (t0 : Nat) (ht0 : ∀ cT : FieldType → ClassId, (z_tys cT)[t0]? = some (cT ty, ty)) {a : Nat} {x : Int32} (d : decode cc pc = .ok (.arraylength, 1)) (hr : aln ty h a = some x) (kk : WP X nL k n (pc + 1) lv (.int x :: st) h) : WP X nL k n pc lv (.ref a :: st) h := by
  have hs : kK ≤ a ∧ ∃ y : vp_A, h.2 a = .inl (ty, y) ∧ x = Int32.ofNat y.1 := by
    unfold aln at hr
    split at hr
    · rename_i hk
      split at hr
      · rename_i t y hc
        split at hr
        · rename_i q
          cases hr
          subst q
          exact ⟨hk, y, hc, rfl⟩
        · cases hr
      · cases hr
    · cases hr
  obtain ⟨hk, y, hc, rfl⟩ := hs
  obtain ⟨⟨p, l, e, R, s, m, args, below, meth, c⟩, D, cT, A, Q, ρ0, h0⟩ := X
  intro ρ H locs ls hI a1 a2 hL
  obtain ⟨g1, g2, g3, g4, g5, g6, g7, g8, g9, g10, g11, g12⟩ := E
  obtain ⟨i1, i2, i3, i4, i5, i6, i7⟩ := id hI
  have ha : a < h.1 := z_ok_hd a2
  exact va_alen (x := z_trA ρ y) (D := D) (cl := vwCl) (tys := z_tys cT) (ws := z_wsOf cT ρ h) g1 g2 g6 i1 (a - kK) t0 (by rw [z_ws_at hk ha, hc]; rfl) (ht0 cT) rfl d (kk ρ H locs ls hI a1 (z_ok_cons trivial (z_ok_tl a2)) hL)
theorem z_alenK {X : PX} {cc : ByteArray} {own nm : String} {nL : Nat} {rm : Room} {ret : Option FieldType} (E : z_E X cc own nm nL rm ret) {k n pc : Nat} {lv : List (Nat × Value)} {st : List Value} {h : PH} {a N : Nat} {y : vp_A} {x : Int32} (d : decode cc pc = .ok (.arraylength, 1)) (hc : h.2 a = .inl (.int, y)) (hk : a < kK) (hx : Int32.ofNat y.1 = x) (kk : WP X nL k n (pc + 1) lv (.int x :: st) h) : WP X nL k n pc lv (.ref a :: st) h := by
  obtain ⟨⟨p, l, e, R, s, m, args, below, meth, c⟩, D, cT, A, Q, ρ0, h0⟩ := X
  intro ρ H locs ls hI a1 a2 hL
  obtain ⟨g1, g2, g3, g4, g5, g6, g7, g8, g9, g10, g11, g12⟩ := E
  obtain ⟨i1, i2, i3, i4, i5, i6, i7⟩ := id hI
  have o := i6 a hk
  rw [hc] at o
  exact va_tlen (N := y.1) g1 g2 o i3 hx d (kk ρ H locs ls hI a1 (z_ok_cons trivial (z_ok_tl a2)) hL)
theorem z_nwI {X : PX} {cc : ByteArray} {own nm : String} {nL : Nat} {rm : Room} {ret : Option FieldType} (E : z_E X cc own nm nL rm ret) {k n pc : Nat} {lv : List (Nat × Value)} {st : List Value} {h : PH} (lim : Nat) (hlim : lim ≤ 100000) {x : Int32} {h2 : PH} (hw : Cond.arrayClass .int ∈ z_ws) (d : decode cc pc = .ok (.newarray .int, 2)) (hr : nwI .int lim h x = some h2) (hk : k + 1 ≤ rm.cells) (hn : n + lim ≤ rm.slots) (kk : WP X nL (k + 1) (n + lim) (pc + 2) lv (.ref h.1 :: st) h2) : WP X nL k n pc lv (.int x :: st) h := by
  have hs : ¬ x < 0 ∧ x.toNatClampNeg ≤ lim ∧ h2 = (h.1 + 1, z_up h.2 h.1 (.inl (.int, x.toNatClampNeg, .inl fun _ => 0))) := by
    unfold nwI at hr
    split at hr
    · cases hr
    · rename_i q
      cases hr
      exact ⟨fun z => q (Or.inl z), Nat.le_of_not_lt fun z => q (Or.inr z), rfl⟩
  obtain ⟨hx0, hxl, rfl⟩ := hs
  obtain ⟨⟨p, l, e, R, s, m, args, below, meth, c⟩, D, cT, A, Q, ρ0, h0⟩ := X
  intro ρ H locs ls hI a1 a2 hL
  obtain ⟨g1, g2, g3, g4, g5, g6, g7, g8, g9, g10, g11, g12⟩ := E
  obtain ⟨i1, i2, i3, i4, i5, i6, i7⟩ := id hI
  refine va_newa (atype := .int) (D := D) (cl := vwCl) (tys := z_tys cT) (ws := z_wsOf cT ρ h) (ty := .int) (a0 := (x.toNatClampNeg, .inl fun _ => 0)) g1 g2 (g5 _ hw) rfl g6 i1 i2 i3 g7 (fun _ => rfl) hx0 rfl (by show _ * 4 ≤ _; omega) (by rw [g10]; exact hk) (by rw [g10]; omega) d (fun q cA H1 q0 q1 q2 q3 => ?_)
  have ec : cA = cT .int := by
    have e1 := (q0.2 (z_tys cT).length (cA, .int) (by simp)).2
    have e2 := (g6.2 0 (cT .int, .int) rfl).2
    exact Option.some.inj (e1.symm.trans e2)
  subst ec
  refine W.widen (k := k + 1) (n := n + lim) (Nat.le_refl _) (by omega) ?_
  have hx := kk (z_up ρ h.1 q) H1 locs ls (z_In_push (cl := .inl (.int, x.toNatClampNeg, .inl fun _ => 0)) hI trivial q1 q2 q3) (fun v hv => z_okV_le (Nat.le_succ _) (a1 v hv)) (z_ok_cons (Nat.lt_succ_self _) (fun v hv => z_okV_le (Nat.le_succ _) (z_ok_tl a2 v hv))) (by rw [z_lm_push a1]; exact hL)
  have e5 : (Value.ref h.1 :: st).map (z_tr (z_up ρ h.1 q)) = .ref q :: st.map (z_tr ρ) := by
    rw [List.map_cons, z_st_push (z_ok_tl a2)]
    show Value.ref (z_up ρ h.1 q h.1) :: _ = _
    rw [z_up_s]
  have hx : W p l e R s m args below meth c H1 locs (k + 1) (n + lim) Q (F0 m (pc + 2) ls ((Value.ref h.1 :: st).map (z_tr (z_up ρ h.1 q)))) := hx
  rw [e5] at hx
  exact hx
theorem z_nwC {X : PX} {cc : ByteArray} {own nm : String} {nL : Nat} {rm : Room} {ret : Option FieldType} (E : z_E X cc own nm nL rm ret) {k n pc : Nat} {lv : List (Nat × Value)} {st : List Value} {h : PH} (lim : Nat) (hlim : lim ≤ 100000) {x : Int32} {h2 : PH} (hw : Cond.arrayClass .char ∈ z_ws) (d : decode cc pc = .ok (.newarray .char, 2)) (hr : nwI .char lim h x = some h2) (hk : k + 1 ≤ rm.cells) (hn : n + lim ≤ rm.slots) (kk : WP X nL (k + 1) (n + lim) (pc + 2) lv (.ref h.1 :: st) h2) : WP X nL k n pc lv (.int x :: st) h := by
  have hs : ¬ x < 0 ∧ x.toNatClampNeg ≤ lim ∧ h2 = (h.1 + 1, z_up h.2 h.1 (.inl (.char, x.toNatClampNeg, .inl fun _ => 0))) := by
    unfold nwI at hr
    split at hr
    · cases hr
    · rename_i q
      cases hr
      exact ⟨fun z => q (Or.inl z), Nat.le_of_not_lt fun z => q (Or.inr z), rfl⟩
  obtain ⟨hx0, hxl, rfl⟩ := hs
  obtain ⟨⟨p, l, e, R, s, m, args, below, meth, c⟩, D, cT, A, Q, ρ0, h0⟩ := X
  intro ρ H locs ls hI a1 a2 hL
  obtain ⟨g1, g2, g3, g4, g5, g6, g7, g8, g9, g10, g11, g12⟩ := E
  obtain ⟨i1, i2, i3, i4, i5, i6, i7⟩ := id hI
  refine va_newa (atype := .char) (D := D) (cl := vwCl) (tys := z_tys cT) (ws := z_wsOf cT ρ h) (ty := .char) (a0 := (x.toNatClampNeg, .inl fun _ => 0)) g1 g2 (g5 _ hw) rfl g6 i1 i2 i3 g7 (fun _ => rfl) hx0 rfl (by show _ * 2 ≤ _; omega) (by rw [g10]; exact hk) (by rw [g10]; omega) d (fun q cA H1 q0 q1 q2 q3 => ?_)
  have ec : cA = cT .char := by
    have e1 := (q0.2 (z_tys cT).length (cA, .char) (by simp)).2
    have e2 := (g6.2 1 (cT .char, .char) rfl).2
    exact Option.some.inj (e1.symm.trans e2)
  subst ec
  refine W.widen (k := k + 1) (n := n + lim) (Nat.le_refl _) (by omega) ?_
  have hx := kk (z_up ρ h.1 q) H1 locs ls (z_In_push (cl := .inl (.char, x.toNatClampNeg, .inl fun _ => 0)) hI trivial q1 q2 q3) (fun v hv => z_okV_le (Nat.le_succ _) (a1 v hv)) (z_ok_cons (Nat.lt_succ_self _) (fun v hv => z_okV_le (Nat.le_succ _) (z_ok_tl a2 v hv))) (by rw [z_lm_push a1]; exact hL)
  have e5 : (Value.ref h.1 :: st).map (z_tr (z_up ρ h.1 q)) = .ref q :: st.map (z_tr ρ) := by
    rw [List.map_cons, z_st_push (z_ok_tl a2)]
    show Value.ref (z_up ρ h.1 q h.1) :: _ = _
    rw [z_up_s]
  have hx : W p l e R s m args below meth c H1 locs (k + 1) (n + lim) Q (F0 m (pc + 2) ls ((Value.ref h.1 :: st).map (z_tr (z_up ρ h.1 q)))) := hx
  rw [e5] at hx
  exact hx
theorem z_nwB {X : PX} {cc : ByteArray} {own nm : String} {nL : Nat} {rm : Room} {ret : Option FieldType} (E : z_E X cc own nm nL rm ret) {k n pc : Nat} {lv : List (Nat × Value)} {st : List Value} {h : PH} (lim : Nat) (hlim : lim ≤ 100000) {x : Int32} {h2 : PH} (hw : Cond.arrayClass .byte ∈ z_ws) (d : decode cc pc = .ok (.newarray .byte, 2)) (hr : nwI .byte lim h x = some h2) (hk : k + 1 ≤ rm.cells) (hn : n + lim ≤ rm.slots) (kk : WP X nL (k + 1) (n + lim) (pc + 2) lv (.ref h.1 :: st) h2) : WP X nL k n pc lv (.int x :: st) h := by
  have hs : ¬ x < 0 ∧ x.toNatClampNeg ≤ lim ∧ h2 = (h.1 + 1, z_up h.2 h.1 (.inl (.byte, x.toNatClampNeg, .inl fun _ => 0))) := by
    unfold nwI at hr
    split at hr
    · cases hr
    · rename_i q
      cases hr
      exact ⟨fun z => q (Or.inl z), Nat.le_of_not_lt fun z => q (Or.inr z), rfl⟩
  obtain ⟨hx0, hxl, rfl⟩ := hs
  obtain ⟨⟨p, l, e, R, s, m, args, below, meth, c⟩, D, cT, A, Q, ρ0, h0⟩ := X
  intro ρ H locs ls hI a1 a2 hL
  obtain ⟨g1, g2, g3, g4, g5, g6, g7, g8, g9, g10, g11, g12⟩ := E
  obtain ⟨i1, i2, i3, i4, i5, i6, i7⟩ := id hI
  refine va_newa (atype := .byte) (D := D) (cl := vwCl) (tys := z_tys cT) (ws := z_wsOf cT ρ h) (ty := .byte) (a0 := (x.toNatClampNeg, .inl fun _ => 0)) g1 g2 (g5 _ hw) rfl g6 i1 i2 i3 g7 (fun _ => rfl) hx0 rfl (by show _ * 1 ≤ _; omega) (by rw [g10]; exact hk) (by rw [g10]; omega) d (fun q cA H1 q0 q1 q2 q3 => ?_)
  have ec : cA = cT .byte := by
    have e1 := (q0.2 (z_tys cT).length (cA, .byte) (by simp)).2
    have e2 := (g6.2 2 (cT .byte, .byte) rfl).2
    exact Option.some.inj (e1.symm.trans e2)
  subst ec
  refine W.widen (k := k + 1) (n := n + lim) (Nat.le_refl _) (by omega) ?_
  have hx := kk (z_up ρ h.1 q) H1 locs ls (z_In_push (cl := .inl (.byte, x.toNatClampNeg, .inl fun _ => 0)) hI trivial q1 q2 q3) (fun v hv => z_okV_le (Nat.le_succ _) (a1 v hv)) (z_ok_cons (Nat.lt_succ_self _) (fun v hv => z_okV_le (Nat.le_succ _) (z_ok_tl a2 v hv))) (by rw [z_lm_push a1]; exact hL)
  have e5 : (Value.ref h.1 :: st).map (z_tr (z_up ρ h.1 q)) = .ref q :: st.map (z_tr ρ) := by
    rw [List.map_cons, z_st_push (z_ok_tl a2)]
    show Value.ref (z_up ρ h.1 q h.1) :: _ = _
    rw [z_up_s]
  have hx : W p l e R s m args below meth c H1 locs (k + 1) (n + lim) Q (F0 m (pc + 2) ls ((Value.ref h.1 :: st).map (z_tr (z_up ρ h.1 q)))) := hx
  rw [e5] at hx
  exact hx
theorem z_nwL {X : PX} {cc : ByteArray} {own nm : String} {nL : Nat} {rm : Room} {ret : Option FieldType} (E : z_E X cc own nm nL rm ret) {k n pc : Nat} {lv : List (Nat × Value)} {st : List Value} {h : PH} (lim : Nat) (hlim : lim ≤ 100000) {x : Int32} {h2 : PH} (hw : Cond.arrayClass .long ∈ z_ws) (d : decode cc pc = .ok (.newarray .long, 2)) (hr : nwL lim h x = some h2) (hk : k + 1 ≤ rm.cells) (hn : n + lim ≤ rm.slots) (kk : WP X nL (k + 1) (n + lim) (pc + 2) lv (.ref h.1 :: st) h2) : WP X nL k n pc lv (.int x :: st) h := by
  have hs : ¬ x < 0 ∧ x.toNatClampNeg ≤ lim ∧ h2 = (h.1 + 1, z_up h.2 h.1 (.inl (.long, x.toNatClampNeg, .inr (.inl fun _ => 0)))) := by
    unfold nwL at hr
    split at hr
    · cases hr
    · rename_i q
      cases hr
      exact ⟨fun z => q (Or.inl z), Nat.le_of_not_lt fun z => q (Or.inr z), rfl⟩
  obtain ⟨hx0, hxl, rfl⟩ := hs
  obtain ⟨⟨p, l, e, R, s, m, args, below, meth, c⟩, D, cT, A, Q, ρ0, h0⟩ := X
  intro ρ H locs ls hI a1 a2 hL
  obtain ⟨g1, g2, g3, g4, g5, g6, g7, g8, g9, g10, g11, g12⟩ := E
  obtain ⟨i1, i2, i3, i4, i5, i6, i7⟩ := id hI
  refine va_newa (atype := .long) (D := D) (cl := vwCl) (tys := z_tys cT) (ws := z_wsOf cT ρ h) (ty := .long) (a0 := (x.toNatClampNeg, .inr (.inl fun _ => 0))) g1 g2 (g5 _ hw) rfl g6 i1 i2 i3 g7 (fun _ => rfl) hx0 rfl (by show _ * 8 ≤ _; omega) (by rw [g10]; exact hk) (by rw [g10]; omega) d (fun q cA H1 q0 q1 q2 q3 => ?_)
  have ec : cA = cT .long := by
    have e1 := (q0.2 (z_tys cT).length (cA, .long) (by simp)).2
    have e2 := (g6.2 3 (cT .long, .long) rfl).2
    exact Option.some.inj (e1.symm.trans e2)
  subst ec
  refine W.widen (k := k + 1) (n := n + lim) (Nat.le_refl _) (by omega) ?_
  have hx := kk (z_up ρ h.1 q) H1 locs ls (z_In_push (cl := .inl (.long, x.toNatClampNeg, .inr (.inl fun _ => 0))) hI trivial q1 q2 q3) (fun v hv => z_okV_le (Nat.le_succ _) (a1 v hv)) (z_ok_cons (Nat.lt_succ_self _) (fun v hv => z_okV_le (Nat.le_succ _) (z_ok_tl a2 v hv))) (by rw [z_lm_push a1]; exact hL)
  have e5 : (Value.ref h.1 :: st).map (z_tr (z_up ρ h.1 q)) = .ref q :: st.map (z_tr ρ) := by
    rw [List.map_cons, z_st_push (z_ok_tl a2)]
    show Value.ref (z_up ρ h.1 q h.1) :: _ = _
    rw [z_up_s]
  have hx : W p l e R s m args below meth c H1 locs (k + 1) (n + lim) Q (F0 m (pc + 2) ls ((Value.ref h.1 :: st).map (z_tr (z_up ρ h.1 q)))) := hx
  rw [e5] at hx
  exact hx
theorem z_nwD {X : PX} {cc : ByteArray} {own nm : String} {nL : Nat} {rm : Room} {ret : Option FieldType} (E : z_E X cc own nm nL rm ret) {k n pc : Nat} {lv : List (Nat × Value)} {st : List Value} {h : PH} (lim : Nat) (hlim : lim ≤ 100000) {x : Int32} {h2 : PH} (hw : Cond.arrayClass .double ∈ z_ws) (d : decode cc pc = .ok (.newarray .double, 2)) (hr : nwD lim h x = some h2) (hk : k + 1 ≤ rm.cells) (hn : n + lim ≤ rm.slots) (kk : WP X nL (k + 1) (n + lim) (pc + 2) lv (.ref h.1 :: st) h2) : WP X nL k n pc lv (.int x :: st) h := by
  have hs : ¬ x < 0 ∧ x.toNatClampNeg ≤ lim ∧ h2 = (h.1 + 1, z_up h.2 h.1 (.inl (.double, x.toNatClampNeg, .inr (.inr (.inr (.inl fun _ => 0)))))) := by
    unfold nwD at hr
    split at hr
    · cases hr
    · rename_i q
      cases hr
      exact ⟨fun z => q (Or.inl z), Nat.le_of_not_lt fun z => q (Or.inr z), rfl⟩
  obtain ⟨hx0, hxl, rfl⟩ := hs
  obtain ⟨⟨p, l, e, R, s, m, args, below, meth, c⟩, D, cT, A, Q, ρ0, h0⟩ := X
  intro ρ H locs ls hI a1 a2 hL
  obtain ⟨g1, g2, g3, g4, g5, g6, g7, g8, g9, g10, g11, g12⟩ := E
  obtain ⟨i1, i2, i3, i4, i5, i6, i7⟩ := id hI
  refine va_newa (atype := .double) (D := D) (cl := vwCl) (tys := z_tys cT) (ws := z_wsOf cT ρ h) (ty := .double) (a0 := (x.toNatClampNeg, .inr (.inr (.inr (.inl fun _ => 0))))) g1 g2 (g5 _ hw) rfl g6 i1 i2 i3 g7 (fun _ => rfl) hx0 rfl (by show _ * 8 ≤ _; omega) (by rw [g10]; exact hk) (by rw [g10]; omega) d (fun q cA H1 q0 q1 q2 q3 => ?_)
  have ec : cA = cT .double := by
    have e1 := (q0.2 (z_tys cT).length (cA, .double) (by simp)).2
    have e2 := (g6.2 4 (cT .double, .double) rfl).2
    exact Option.some.inj (e1.symm.trans e2)
  subst ec
  refine W.widen (k := k + 1) (n := n + lim) (Nat.le_refl _) (by omega) ?_
  have hx := kk (z_up ρ h.1 q) H1 locs ls (z_In_push (cl := .inl (.double, x.toNatClampNeg, .inr (.inr (.inr (.inl fun _ => 0))))) hI trivial q1 q2 q3) (fun v hv => z_okV_le (Nat.le_succ _) (a1 v hv)) (z_ok_cons (Nat.lt_succ_self _) (fun v hv => z_okV_le (Nat.le_succ _) (z_ok_tl a2 v hv))) (by rw [z_lm_push a1]; exact hL)
  have e5 : (Value.ref h.1 :: st).map (z_tr (z_up ρ h.1 q)) = .ref q :: st.map (z_tr ρ) := by
    rw [List.map_cons, z_st_push (z_ok_tl a2)]
    show Value.ref (z_up ρ h.1 q h.1) :: _ = _
    rw [z_up_s]
  have hx : W p l e R s m args below meth c H1 locs (k + 1) (n + lim) Q (F0 m (pc + 2) ls ((Value.ref h.1 :: st).map (z_tr (z_up ρ h.1 q)))) := hx
  rw [e5] at hx
  exact hx
theorem z_nwQ {X : PX} {cc : ByteArray} {own nm : String} {nL : Nat} {rm : Room} {ret : Option FieldType} (E : z_E X cc own nm nL rm ret) {k n pc : Nat} {lv : List (Nat × Value)} {st : List Value} {h : PH} (lim : Nat) (hlim : lim ≤ 100000) {ix : Nat} {x : Int32} {h2 : PH} (hw : Cond.classLink own ix "FootnoteFishery$State" ∈ z_ws) (d : decode cc pc = .ok (.anewarray ix, 3)) (hr : nwQ lim h x = some h2) (hk : k + 1 ≤ rm.cells) (hn : n + lim ≤ rm.slots) (kk : WP X nL (k + 1) (n + lim) (pc + 3) lv (.ref h.1 :: st) h2) : WP X nL k n pc lv (.int x :: st) h := by
  have hs : ¬ x < 0 ∧ x.toNatClampNeg ≤ lim ∧ h2 = (h.1 + 1, z_up h.2 h.1 (.inl (tyS, x.toNatClampNeg, .inr (.inr (.inr (.inr fun _ => none)))))) := by
    unfold nwQ at hr
    split at hr
    · cases hr
    · rename_i q
      cases hr
      exact ⟨fun z => q (Or.inl z), Nat.le_of_not_lt fun z => q (Or.inr z), rfl⟩
  obtain ⟨hx0, hxl, rfl⟩ := hs
  obtain ⟨⟨p, l, e, R, s, m, args, below, meth, c⟩, D, cT, A, Q, ρ0, h0⟩ := X
  intro ρ H locs ls hI a1 a2 hL
  obtain ⟨g1, g2, g3, g4, g5, g6, g7, g8, g9, g10, g11, g12⟩ := E
  obtain ⟨i1, i2, i3, i4, i5, i6, i7⟩ := id hI
  refine va_newq (D := D) (cl := vwCl) (tys := z_tys cT) (ws := z_wsOf cT ρ h) (C := "FootnoteFishery$State") g1 g2 g4 (g5 _ hw) i7.1.2.2.2.2.2.2.2.2.1 g6 i1 i2 i3 g7 hx0 rfl (by omega) (by rw [g10]; exact hk) (by rw [g10]; omega) d (fun q cA H1 q0 q1 q2 q3 => ?_)
  have ec : cA = cT tyS := by
    have e1 := (q0.2 (z_tys cT).length (cA, .object "FootnoteFishery$State") (by simp)).2
    have e2 := (g6.2 5 (cT tyS, .object "FootnoteFishery$State") rfl).2
    obtain ⟨_, _, _, _, _, e1⟩ := e1
    obtain ⟨_, _, _, _, _, e2⟩ := e2
    exact Option.some.inj (e1.symm.trans e2)
  subst ec
  refine W.widen (k := k + 1) (n := n + lim) (Nat.le_refl _) (by omega) ?_
  have hok : z_okC h.1 (.inl (tyS, x.toNatClampNeg, .inr (.inr (.inr (.inr fun _ => none))))) := fun j b hb => by cases hb
  have hx := kk (z_up ρ h.1 q) H1 locs ls (z_In_push (cl := .inl (tyS, x.toNatClampNeg, .inr (.inr (.inr (.inr fun _ => none))))) hI hok q1 q2 q3) (fun v hv => z_okV_le (Nat.le_succ _) (a1 v hv)) (z_ok_cons (Nat.lt_succ_self _) (fun v hv => z_okV_le (Nat.le_succ _) (z_ok_tl a2 v hv))) (by rw [z_lm_push a1]; exact hL)
  have e5 : (Value.ref h.1 :: st).map (z_tr (z_up ρ h.1 q)) = .ref q :: st.map (z_tr ρ) := by
    rw [List.map_cons, z_st_push (z_ok_tl a2)]
    show Value.ref (z_up ρ h.1 q h.1) :: _ = _
    rw [z_up_s]
  have hx : W p l e R s m args below meth c H1 locs (k + 1) (n + lim) Q (F0 m (pc + 3) ls ((Value.ref h.1 :: st).map (z_tr (z_up ρ h.1 q)))) := hx
  rw [e5] at hx
  exact hx
def z_New (own : String) (ix ci : Nat) (fs : List Value) : Prop := ∃ (C : String) (T : u_T) (N : Nat) (ty0 : Nat → FieldType), vwCl[ci]? = some (C, T, N) ∧ (∀ w ∈ u_ws C T N, w ∈ z_ws) ∧ (∀ k, k < N → parseFieldDescriptor (T k).2.2.1 = some (ty0 k)) ∧ Cond.classLink own ix C ∈ z_ws ∧ Cond.instantiable C N ∈ z_ws ∧ Cond.initialized C ∈ z_ws ∧ (∀ j, j < N → defaultValue (ty0 j) = vp_V fs j) ∧ N ≤ 20 ∧ ∀ v ∈ fs, (∀ ρ, z_tr ρ v = v) ∧ ∀ n, z_okV n v
theorem z_nwO {X : PX} {cc : ByteArray} {own nm : String} {nL : Nat} {rm : Room} {ret : Option FieldType} (E : z_E X cc own nm nL rm ret) {k n pc : Nat} {lv : List (Nat × Value)} {st : List Value} {h : PH} {ix ci : Nat} {fs : List Value} (F : z_New own ix ci fs) (d : decode cc pc = .ok (.new ix, 3)) (hk : k + 1 ≤ rm.cells) (hn : n + 20 ≤ rm.slots) (kk : WP X nL (k + 1) (n + 20) (pc + 3) lv (.ref h.1 :: st) (nwO ci fs h)) : WP X nL k n pc lv st h := by
  obtain ⟨⟨p, l, e, R, s, m, args, below, meth, c⟩, D, cT, A, Q, ρ0, h0⟩ := X
  intro ρ H locs ls hI a1 a2 hL
  obtain ⟨g1, g2, g3, g4, g5, g6, g7, g8, g9, g10, g11, g12⟩ := E
  obtain ⟨i1, i2, i3, i4, i5, i6, i7⟩ := id hI
  obtain ⟨C, T, N, ty0, f1, f2, f3, f4, f5, f6, f7, f8, f9⟩ := F
  have em : ∀ ρ, fs.map (z_tr ρ) = fs := fun ρ => (List.map_congr_left fun v hv => (f9 v hv).1 ρ).trans (List.map_id' fs)
  refine va_new (D := D) (cl := vwCl) (tys := z_tys cT) (ws := z_wsOf cT ρ h) (fs := fs) g1 g2 g5 f2 ty0 f3 g4 (g5 _ f4) (g5 _ f5) (g5 _ f6) g6 i1 i2 i3 g7 f1 f7 (by rw [g10]; exact hk) (by rw [g10]; omega) d (fun q H1 q1 q2 q3 => ?_)
  refine W.widen (k := k + 1) (n := n + 20) (Nat.le_refl _) (by omega) ?_
  have hok : z_okC h.1 (.inr (ci, fs)) := fun v hv => (f9 v hv).2 _
  have ec : z_trC cT ρ (.inr (ci, fs)) = .inr (ci, fs) := by show Sum.inr (ci, fs.map (z_tr ρ)) = _; rw [em]
  have hx := kk (z_up ρ h.1 q) H1 locs ls (z_In_push (cl := .inr (ci, fs)) hI hok (by rw [ec]; exact q1) (by rw [ec]; exact q2) q3) (fun v hv => z_okV_le (Nat.le_succ _) (a1 v hv)) (z_ok_cons (Nat.lt_succ_self _) (fun v hv => z_okV_le (Nat.le_succ _) (a2 v hv))) (by rw [z_lm_push a1]; exact hL)
  have e5 : (Value.ref h.1 :: st).map (z_tr (z_up ρ h.1 q)) = .ref q :: st.map (z_tr ρ) := by
    rw [List.map_cons, z_st_push a2]
    show Value.ref (z_up ρ h.1 q h.1) :: _ = _
    rw [z_up_s]
  have hx : W p l e R s m args below meth c H1 locs (k + 1) (n + 20) Q (F0 m (pc + 3) ls ((Value.ref h.1 :: st).map (z_tr (z_up ρ h.1 q)))) := hx
  rw [e5] at hx
  exact hx
theorem z_cpI {X : PX} {cc : ByteArray} {own nm : String} {nL : Nat} {rm : Room} {ret : Option FieldType} (E : z_E X cc own nm nL rm ret) {k n pc : Nat} {lv : List (Nat × Value)} {st : List Value} {h : PH} {ix a b : Nat} {sp dp x : Int32} {h2 : PH} (hw : Cond.methodLink own ix arraycopyName ∈ z_ws ∧ Cond.native arraycopyName ∈ z_ws ∧ Cond.static arraycopyName ∈ z_ws ∧ Cond.initialized "java/lang/System" ∈ z_ws) (d : decode cc pc = .ok (.invokestatic ix, 3)) (hr : cpI .int h a sp b dp x = some h2) (hf : 1 ≤ rm.frames) (hlo : (st.map fun v => v.category).sum + (nativeFrameWords "java/lang/System" "arraycopy" 5 + 11) ≤ rm.locals) (kk : WP X nL k n (pc + 3) lv st h2) : WP X nL k n pc lv (.int x :: .int dp :: .ref b :: .int sp :: .ref a :: st) h := by
  obtain ⟨hka, hkb, n0, n1, f, g, hca, hcb, h3, h4, h5, h6, h7, h8, rfl⟩ := z_cpI_spec hr
  obtain ⟨⟨p, l, e, R, s, m, args, below, meth, c⟩, D, cT, A, Q, ρ0, h0⟩ := X
  intro ρ H locs ls hI a1 a2 hL
  obtain ⟨g1, g2, g3, g4, g5, g6, g7, g8, g9, g10, g11, g12⟩ := E
  obtain ⟨i1, i2, i3, i4, i5, i6, i7⟩ := id hI
  have hb : b < h.1 := z_ok_hd (z_ok_tl (z_ok_tl a2))
  have ha : a < h.1 := z_ok_hd (z_ok_tl (z_ok_tl (z_ok_tl (z_ok_tl a2))))
  refine va_copyi (D := D) (cl := vwCl) (tys := z_tys cT) (ws := z_wsOf cT ρ h) (f := f) (g := g) (n0 := n0) (n1 := n1) (ty := .int) (c0 := cT .int) (c1 := cT .int) g1 g2 (by rw [g3, hL.1]) g4 (g5 _ hw.1) (g5 _ hw.2.1) (g5 _ hw.2.2.1) (g5 _ hw.2.2.2) g6 i1 i2 i3 (a - kK) (b - kK) 0 0 (by rw [z_ws_at hka ha, hca]; rfl) (by rw [z_ws_at hkb hb, hcb]; rfl) rfl rfl rfl h3 h4 h5 h6 h7 h8 (by rw [g10]; exact hf) (by rw [g10, z_sum_cat]; exact hlo) d (fun H1 locs1 q1 q2 q3 => ?_)
  exact kk ρ H1 locs1 ls (z_In_set (cl := .inl (.int, n1, .inl (va_cpy f g sp.toNatClampNeg dp.toNatClampNeg x.toNatClampNeg))) hI hkb trivial q1 q2 q3) a1 (z_ok_tl (z_ok_tl (z_ok_tl (z_ok_tl (z_ok_tl a2))))) hL
theorem z_cpC {X : PX} {cc : ByteArray} {own nm : String} {nL : Nat} {rm : Room} {ret : Option FieldType} (E : z_E X cc own nm nL rm ret) {k n pc : Nat} {lv : List (Nat × Value)} {st : List Value} {h : PH} {ix a b : Nat} {sp dp x : Int32} {h2 : PH} (hw : Cond.methodLink own ix arraycopyName ∈ z_ws ∧ Cond.native arraycopyName ∈ z_ws ∧ Cond.static arraycopyName ∈ z_ws ∧ Cond.initialized "java/lang/System" ∈ z_ws) (d : decode cc pc = .ok (.invokestatic ix, 3)) (hr : cpI .char h a sp b dp x = some h2) (hf : 1 ≤ rm.frames) (hlo : (st.map fun v => v.category).sum + (nativeFrameWords "java/lang/System" "arraycopy" 5 + 11) ≤ rm.locals) (kk : WP X nL k n (pc + 3) lv st h2) : WP X nL k n pc lv (.int x :: .int dp :: .ref b :: .int sp :: .ref a :: st) h := by
  obtain ⟨hka, hkb, n0, n1, f, g, hca, hcb, h3, h4, h5, h6, h7, h8, rfl⟩ := z_cpI_spec hr
  obtain ⟨⟨p, l, e, R, s, m, args, below, meth, c⟩, D, cT, A, Q, ρ0, h0⟩ := X
  intro ρ H locs ls hI a1 a2 hL
  obtain ⟨g1, g2, g3, g4, g5, g6, g7, g8, g9, g10, g11, g12⟩ := E
  obtain ⟨i1, i2, i3, i4, i5, i6, i7⟩ := id hI
  have hb : b < h.1 := z_ok_hd (z_ok_tl (z_ok_tl a2))
  have ha : a < h.1 := z_ok_hd (z_ok_tl (z_ok_tl (z_ok_tl (z_ok_tl a2))))
  refine va_copyi (D := D) (cl := vwCl) (tys := z_tys cT) (ws := z_wsOf cT ρ h) (f := f) (g := g) (n0 := n0) (n1 := n1) (ty := .char) (c0 := cT .char) (c1 := cT .char) g1 g2 (by rw [g3, hL.1]) g4 (g5 _ hw.1) (g5 _ hw.2.1) (g5 _ hw.2.2.1) (g5 _ hw.2.2.2) g6 i1 i2 i3 (a - kK) (b - kK) 1 1 (by rw [z_ws_at hka ha, hca]; rfl) (by rw [z_ws_at hkb hb, hcb]; rfl) rfl rfl rfl h3 h4 h5 h6 h7 h8 (by rw [g10]; exact hf) (by rw [g10, z_sum_cat]; exact hlo) d (fun H1 locs1 q1 q2 q3 => ?_)
  exact kk ρ H1 locs1 ls (z_In_set (cl := .inl (.char, n1, .inl (va_cpy f g sp.toNatClampNeg dp.toNatClampNeg x.toNatClampNeg))) hI hkb trivial q1 q2 q3) a1 (z_ok_tl (z_ok_tl (z_ok_tl (z_ok_tl (z_ok_tl a2))))) hL
theorem z_cpB {X : PX} {cc : ByteArray} {own nm : String} {nL : Nat} {rm : Room} {ret : Option FieldType} (E : z_E X cc own nm nL rm ret) {k n pc : Nat} {lv : List (Nat × Value)} {st : List Value} {h : PH} {ix a b : Nat} {sp dp x : Int32} {h2 : PH} (hw : Cond.methodLink own ix arraycopyName ∈ z_ws ∧ Cond.native arraycopyName ∈ z_ws ∧ Cond.static arraycopyName ∈ z_ws ∧ Cond.initialized "java/lang/System" ∈ z_ws) (d : decode cc pc = .ok (.invokestatic ix, 3)) (hr : cpI .byte h a sp b dp x = some h2) (hf : 1 ≤ rm.frames) (hlo : (st.map fun v => v.category).sum + (nativeFrameWords "java/lang/System" "arraycopy" 5 + 11) ≤ rm.locals) (kk : WP X nL k n (pc + 3) lv st h2) : WP X nL k n pc lv (.int x :: .int dp :: .ref b :: .int sp :: .ref a :: st) h := by
  obtain ⟨hka, hkb, n0, n1, f, g, hca, hcb, h3, h4, h5, h6, h7, h8, rfl⟩ := z_cpI_spec hr
  obtain ⟨⟨p, l, e, R, s, m, args, below, meth, c⟩, D, cT, A, Q, ρ0, h0⟩ := X
  intro ρ H locs ls hI a1 a2 hL
  obtain ⟨g1, g2, g3, g4, g5, g6, g7, g8, g9, g10, g11, g12⟩ := E
  obtain ⟨i1, i2, i3, i4, i5, i6, i7⟩ := id hI
  have hb : b < h.1 := z_ok_hd (z_ok_tl (z_ok_tl a2))
  have ha : a < h.1 := z_ok_hd (z_ok_tl (z_ok_tl (z_ok_tl (z_ok_tl a2))))
  refine va_copyi (D := D) (cl := vwCl) (tys := z_tys cT) (ws := z_wsOf cT ρ h) (f := f) (g := g) (n0 := n0) (n1 := n1) (ty := .byte) (c0 := cT .byte) (c1 := cT .byte) g1 g2 (by rw [g3, hL.1]) g4 (g5 _ hw.1) (g5 _ hw.2.1) (g5 _ hw.2.2.1) (g5 _ hw.2.2.2) g6 i1 i2 i3 (a - kK) (b - kK) 2 2 (by rw [z_ws_at hka ha, hca]; rfl) (by rw [z_ws_at hkb hb, hcb]; rfl) rfl rfl rfl h3 h4 h5 h6 h7 h8 (by rw [g10]; exact hf) (by rw [g10, z_sum_cat]; exact hlo) d (fun H1 locs1 q1 q2 q3 => ?_)
  exact kk ρ H1 locs1 ls (z_In_set (cl := .inl (.byte, n1, .inl (va_cpy f g sp.toNatClampNeg dp.toNatClampNeg x.toNatClampNeg))) hI hkb trivial q1 q2 q3) a1 (z_ok_tl (z_ok_tl (z_ok_tl (z_ok_tl (z_ok_tl a2))))) hL
