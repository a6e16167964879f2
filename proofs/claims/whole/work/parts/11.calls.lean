section ENDS
theorem z_RofIn {p : Program} {l : Launch} {e : Env} {R : Room} {s : State} {m : MethodId} {args : Array Value} {below : List Frame} {meth : Method} {c : Code} {D : va_G} {cT : FieldType → ClassId} {Q : State → Prop} {ρ0 ρ : Nat → Nat} {h0 h : PH} {H : Heap} {locs : List Loc} (hI : z_In ((p, l, e, R, s, m, args, below, meth, c), D, cT, z_A ρ0 h0 s.heap.size, Q, ρ0, h0) ρ h H locs) {t : State} (ht : t.heap = H) : z_R D cT ρ0 s.heap.size h0 h ρ t := by
  obtain ⟨i1, i2, i3, i4, i5, i6, i7, i8, i9, i10⟩ := hI
  exact ⟨by rw [ht]; exact i1, i2, i5, i4, i8, i9, i10⟩
variable {X : PX} {cc : ByteArray} {own nm : String} {nL : Nat} {rm : Room} {ret : Option FieldType} {k n pc mc ms : Nat} {lv : List (Nat × Value)} {st : List Value} {h : PH}
theorem z_iret (E : z_E X cc own nm nL rm ret) {o : String ⊕ Option Value} {h' : PH} {v : Int32} {ty : FieldType} (M : z_M X mc ms o h') (d : decode cc pc = .ok (.ireturn, 1)) (hr : ret = some ty) (hn : narrow ty (.int v) = .int v) (ho : o = .inr (some (.int v))) (hh : h' = h) (hk : k ≤ mc) (hs : n ≤ ms) : WP X nL k n pc lv [.int v] h := by
  obtain ⟨⟨p, l, e, R, s, m, args, below, meth, c⟩, D, cT, A, Q, ρ0, h0⟩ := X
  intro ρ H locs ls hI a1 a2 hL
  obtain ⟨g1, g2, g3, g4, g5, g6, g7, g8, g9, g10, g11, g12⟩ := E
  obtain ⟨rfl, rfl⟩ := M
  subst hh
  refine W.widen hk hs (vx_ret ?_)
  exact W.zret (v := v) g1 g2 (g11.trans hr) hn (fun t ht hW => ⟨⟨some (.int v), ρ, ho, rfl, z_RofIn hI ht, fun w hw => by cases hw; trivial⟩, hI.2.2.1.F ht⟩) hI.2.2.1.2.2 d g9
theorem z_vret (E : z_E X cc own nm nL rm ret) {o : String ⊕ Option Value} {h' : PH} (M : z_M X mc ms o h') (d : decode cc pc = .ok (.return_, 1)) (hr : ret = none) (ho : o = .inr none) (hh : h' = h) (hk : k ≤ mc) (hs : n ≤ ms) : WP X nL k n pc lv [] h := by
  obtain ⟨⟨p, l, e, R, s, m, args, below, meth, c⟩, D, cT, A, Q, ρ0, h0⟩ := X
  intro ρ H locs ls hI a1 a2 hL
  obtain ⟨g1, g2, g3, g4, g5, g6, g7, g8, g9, g10, g11, g12⟩ := E
  obtain ⟨rfl, rfl⟩ := M
  subst hh
  refine W.widen hk hs (vx_ret ?_)
  exact W.vret g1 g2 (g11.trans hr) (fun t ht hW => ⟨⟨none, ρ, ho, rfl, z_RofIn hI ht, fun w hw => by cases hw⟩, hI.2.2.1.F ht⟩) hI.2.2.1.2.2 d g9
theorem z_aret (E : z_E X cc own nm nL rm ret) {o : String ⊕ Option Value} {h' : PH} {a : Nat} {rt : FieldType} (M : z_M X mc ms o h') (d : decode cc pc = .ok (.areturn, 1)) (hr : ret = some rt) (hrt : (∃ n, rt = .object n) ∨ ∃ t, rt = .array t) (ho : o = .inr (some (.ref a))) (hh : h' = h) (hk : k ≤ mc) (hs : n ≤ ms) : WP X nL k n pc lv [.ref a] h := by
  obtain ⟨⟨p, l, e, R, s, m, args, below, meth, c⟩, D, cT, A, Q, ρ0, h0⟩ := X
  intro ρ H locs ls hI a1 a2 hL
  obtain ⟨g1, g2, g3, g4, g5, g6, g7, g8, g9, g10, g11, g12⟩ := E
  obtain ⟨rfl, rfl⟩ := M
  subst hh
  refine W.widen hk hs (vx_ret ?_)
  exact W.aret (v := .ref (ρ a)) g1 g2 (g11.trans hr) hrt (Or.inr ⟨_, rfl⟩) (fun t ht hW => ⟨⟨some (.ref a), ρ, ho, rfl, z_RofIn hI ht, fun w hw => by cases hw; exact z_ok_hd a2⟩, hI.2.2.1.F ht⟩) hI.2.2.1.2.2 d g9
theorem z_dret (E : z_E X cc own nm nL rm ret) {o : String ⊕ Option Value} {h' : PH} {v : UInt64} (M : z_M X mc ms o h') (d : decode cc pc = .ok (.dreturn, 1)) (hr : ret = some .double) (ho : o = .inr (some (.double v))) (hh : h' = h) (hk : k ≤ mc) (hs : n ≤ ms) : WP X nL k n pc lv [.double v] h := by
  obtain ⟨⟨p, l, e, R, s, m, args, below, meth, c⟩, D, cT, A, Q, ρ0, h0⟩ := X
  intro ρ H locs ls hI a1 a2 hL
  obtain ⟨g1, g2, g3, g4, g5, g6, g7, g8, g9, g10, g11, g12⟩ := E
  obtain ⟨rfl, rfl⟩ := M
  subst hh
  refine W.widen hk hs (vx_ret ?_)
  exact W.dret (v := v) g1 g2 (g11.trans hr) (fun t ht hW => ⟨⟨some (.double v), ρ, ho, rfl, z_RofIn hI ht, fun w hw => by cases hw; trivial⟩, hI.2.2.1.F ht⟩) hI.2.2.1.2.2 d g9
theorem z_fret (E : z_E X cc own nm nL rm ret) {o : String ⊕ Option Value} {h' : PH} {v : UInt32} (M : z_M X mc ms o h') (d : decode cc pc = .ok (.freturn, 1)) (hr : ret = some .float) (ho : o = .inr (some (.float v))) (hh : h' = h) (hk : k ≤ mc) (hs : n ≤ ms) : WP X nL k n pc lv [.float v] h := by
  obtain ⟨⟨p, l, e, R, s, m, args, below, meth, c⟩, D, cT, A, Q, ρ0, h0⟩ := X
  intro ρ H locs ls hI a1 a2 hL
  obtain ⟨g1, g2, g3, g4, g5, g6, g7, g8, g9, g10, g11, g12⟩ := E
  obtain ⟨rfl, rfl⟩ := M
  subst hh
  refine W.widen hk hs (vx_ret ?_)
  exact W.fret (v := v) g1 g2 (g11.trans hr) (fun t ht hW => ⟨⟨some (.float v), ρ, ho, rfl, z_RofIn hI ht, fun w hw => by cases hw; trivial⟩, hI.2.2.1.F ht⟩) hI.2.2.1.2.2 d g9
/-- an exception goes through a method that has no table -/
theorem z_outX (E : z_E X cc own nm nL rm ret) {o : String ⊕ Option Value} {h' : PH} {Ex : String} (T0 : z_T0 X) (M : z_M X mc ms o h') (ho : o = .inl Ex) (hh : h' = h) (hk : k ≤ mc) (hs : n ≤ ms) : WPX X nL k n pc lv h Ex := by
  obtain ⟨⟨p, l, e, R, s, m, args, below, meth, c⟩, D, cT, A, Q, ρ0, h0⟩ := X
  intro ρ H locs ls q ce rest hI a1 hL hq hv hcl
  obtain ⟨g1, g2, g3, g4, g5, g6, g7, g8, g9, g10, g11, g12⟩ := E
  obtain ⟨rfl, rfl⟩ := M
  subst hh
  exact vx_out (fun x hx => (T0 x hx).elim) g9 hq hv hcl (fun t ht hA => ⟨⟨ho, ρ, z_RofIn hI ht⟩, hI.2.2.1.F ht⟩) hI.2.2.1.2.2 hk hs
end ENDS
section CALLS
variable {X : PX} {cc : ByteArray} {own nm : String} {nL : Nat} {rm : Room} {ret : Option FieldType} {k n pc : Nat} {lv : List (Nat × Value)} {st : List Value} {h : PH}
/-- how a caller stands at a call: what the callee asks -/
theorem z_pre {p : Program} {l : Launch} {e : Env} {R : Room} {s : State} {m : MethodId} {args : Array Value} {below : List Frame} {meth : Method} {c : Code} {D : va_G} {cT : FieldType → ClassId} {A : Nat → Prop} {Q : State → Prop} {ρ0 ρ : Nat → Nat} {h0 h : PH} {H : Heap} {locs : List Loc} {av : List Value} (hI : z_In ((p, l, e, R, s, m, args, below, meth, c), D, cT, A, Q, ρ0, h0) ρ h H locs) (hK : va_K D vwCl (z_tys cT) s) (hA : ∀ q, s.heap.size ≤ q → A q) (hav : ∀ v ∈ av, z_okV h.1 v) {U : State} (hU : U.heap = H) (hW : s.WarmedH U.vm) : z_Pc D cT ρ H.size h av (av.map (z_tr ρ)).toArray U := by
  obtain ⟨i1, i2, i3, i4, i5, i6, i7, i8⟩ := hI
  have hAB : ∀ q, z_A ρ h H.size q → A q := fun q hq => by
    rcases hq with ⟨a, h1, h2, rfl⟩ | hq
    · exact i2.2 _ _ (z_ws_at h1 h2)
    · exact hA q (Nat.le_trans i3.1 hq)
  have hk : ∀ b : Nat, b < s.heap.size → ¬ A b → U.heap[b]? = s.heap[b]? := fun b h1 h2 => by rw [hU]; exact i3.2.1 b h1 h2
  refine ⟨rfl, by rw [hU], va_K.moved hW.alike hK, by rw [hU]; exact i1, ⟨i2.1, fun j q hj => ?_⟩, i4, i5, fun a ha => z_kC_move hW.alike hk hAB (i6 a ha), z_G_move hW hk hAB i7, hav⟩
  obtain ⟨h1, h2, rfl⟩ := z_ws_of hj
  exact Or.inl ⟨_, h1, h2, rfl⟩
theorem z_callW {p : Program} {l : Launch} {e : Env} {R : Room} {s : State} {m : MethodId} {args : Array Value} {below : List Frame} {meth : Method} {c : Code} {D : va_G} {cT : FieldType → ClassId} {A : Nat → Prop} {Q : State → Prop} {ρ0 : Nat → Nat} {h0 : PH} {cc : ByteArray} {own nm : String} {nL : Nat} {rm : Room} {ret : Option FieldType} {k n pc : Nat} {lv : List (Nat × Value)} {st : List Value} {h : PH} {rmc : Room} {o : String ⊕ Option Value} {h' : PH} {ρ : Nat → Nat} {H : Heap} {locs : List Loc} {ls : Array Slot} {sr : List Value} {a : Array Value} (E : z_E ((p, l, e, R, s, m, args, below, meth, c), D, cT, A, Q, ρ0, h0) cc own nm nL rm ret)
    (hI : z_In ((p, l, e, R, s, m, args, below, meth, c), D, cT, A, Q, ρ0, h0) ρ h H locs) (a1 : ∀ q ∈ lv, z_okV h.1 q.2) (hst2 : ∀ v ∈ st, z_okV h.1 v) (hL : lv_has ls nL (z_lm ρ lv))
    (run : vx_Run p l e R s m args below meth c H locs k n rmc.cells rmc.slots (F0 m pc ls sr) (st.map (z_tr ρ)) (z_Q D cT ρ H.size h o h' a) (z_XC D cT ρ H.size h o h') (z_A ρ h H.size))
    (kk : ∀ ov : Option Value, o = .inr ov → WP ((p, l, e, R, s, m, args, below, meth, c), D, cT, A, Q, ρ0, h0) nL (k + rmc.cells) (n + rmc.slots) (pc + 3) lv (ov.toList ++ st) h')
    (kx : ∀ Ex : String, o = .inl Ex → WPX ((p, l, e, R, s, m, args, below, meth, c), D, cT, A, Q, ρ0, h0) nL (k + rmc.cells) (n + rmc.slots) pc lv h' Ex) : W p l e R s m args below meth c H locs k n Q (F0 m pc ls sr) := by
  intro T hT Xs
  obtain ⟨g1, g2, g3, g4, g5, g6, g7, g8, g9, g10, g11, g12⟩ := E
  obtain ⟨i1, i2, i3, i4, i5, i6, i7, i8, i9, i10⟩ := id hI
  have hAB : ∀ q, q < H.size → z_A ρ h H.size q → A q := fun q _ hq => by
    rcases hq with ⟨a, h1, h2, rfl⟩ | hq
    · exact i2.2 _ _ (z_ws_at h1 h2)
    · exact g7 q (Nat.le_trans i3.1 hq)
  have hfree : ∀ q, z_A ρ h H.size q → A q := fun q hq => by
    rcases hq with ⟨a, h1, h2, rfl⟩ | hq
    · exact i2.2 _ _ (z_ws_at h1 h2)
    · exact g7 q (Nat.le_trans i3.1 hq)
  have back : ∀ (ρ' : Nat → Nat) (H1 : Heap) (locs1 : List Loc) (t : State), t.heap = H1 → z_R D cT ρ H.size h h' ρ' t → va_S A s.heap H1 locs1 → z_In ((p, l, e, R, s, m, args, below, meth, c), D, cT, A, Q, ρ0, h0) ρ' h' H1 locs1 ∧ (∀ q ∈ lv, z_okV h'.1 q.2) ∧ (∀ v ∈ st, z_okV h'.1 v) ∧ z_lm ρ' lv = z_lm ρ lv ∧ st.map (z_tr ρ') = st.map (z_tr ρ) := by
    intro ρ' H1 locs1 t ht hR hS1
    obtain ⟨r1, r2, r3, r4, r5, r6, r7⟩ := hR
    refine ⟨⟨by rw [← ht]; exact r1, ⟨r2.1, fun j q hj => ?_⟩, hS1, r4, r3, fun a ha => ?_, z_G_ext i4 r6 i7, Nat.le_trans i8 r5, fun a ha => ?_, fun a ha => ?_⟩, fun q hq => z_okV_le r5 (a1 q hq), fun v hv => z_okV_le r5 (hst2 v hv), ?_, z_trs_ext r6 hst2⟩
    · exact hfree _ (r2.2 j q hj)
    · rw [r7 a ha]
      exact z_kC_ext r6 (by omega) (i5 a (by omega)) (i6 a ha)
    · rw [r6 a (by omega)]; exact i9 a ha
    · rw [r7 a ha]; exact i10 a ha
    · unfold z_lm
      exact List.map_congr_left fun x hx => by rw [z_tr_ext r6 (a1 x hx)]
  rcases run T hT Xs with ⟨v, st₀, t, T', L, e0, X', hLf, e1, e2, ⟨⟨ov, ρ', ho, hv, hR, hov⟩, hF⟩, stp⟩ | ⟨q, st₀, t, T', L, Ex, ce, e0, X', hLf, e1, e2, ⟨⟨ho, ρ', hR⟩, hF⟩, hce, hcv, hcl, stp⟩
  · cases hv
    obtain ⟨k1, k2, k3⟩ := vx_keep e0 e1 i3 hAB hfree hLf hF
    obtain ⟨b1, b2, b3, b4, b5⟩ := back ρ' T'.heap (locs ++ L) t e1.symm hR k3
    have hx := kk ov ho ρ' T'.heap (locs ++ L) ls b1 b2 (fun w hw => by
      rcases List.mem_append.mp hw with hw | hw
      · cases ov with
        | none => cases hw
        | some y => exact hov w (by simpa using (by simpa using hw : w = y).symm ▸ rfl)
      · exact b3 w hw) (by rw [b4]; exact hL)
    obtain ⟨t2, c1, c2⟩ := hx T' rfl X'
    refine ⟨t2, stp t2 ?_, c2⟩
    have e9 : (ov.toList ++ st).map (z_tr ρ') = (ov.map (z_tr ρ')).toList ++ st.map (z_tr ρ) := by
      rw [List.map_append, b5]
      cases ov <;> rfl
    rw [e9] at c1
    exact c1
  · obtain ⟨k1, k2, k3⟩ := vx_keep e0 e1 i3 hAB hfree hLf hF
    obtain ⟨b1, b2, b3, b4, b5⟩ := back ρ' T'.heap (locs ++ L) t e1.symm hR k3
    obtain ⟨t2, c1, c2⟩ := kx Ex ho ρ' T'.heap (locs ++ L) ls q ce (st.map (z_tr ρ)) b1 b2 (by rw [b4]; exact hL) (by rw [e1]; exact hce) hcv hcl T' rfl X'
    exact ⟨t2, stp.trans c1, c2⟩
theorem z_callG {rmc : Room} {l : Launch} {av : List Value} {st0 : List Value} {o : String ⊕ Option Value} {h' : PH} (E : z_E X cc own nm nL rm ret)
    (hst : st0 = av.reverse ++ st)
    (run : ∀ (ρ : Nat → Nat) (H : Heap) (locs : List Loc) (ls : Array Slot), z_In X ρ h H locs → (∀ v ∈ av, z_okV h.1 v) → ls.size = nL → match X with
      | ((p, l, e, R, s, m, args, below, meth, c), D, cT, A, Q, ρ0, h0) => vx_Run p l e R s m args below meth c H locs k n rmc.cells rmc.slots (F0 m pc ls (st0.map (z_tr ρ))) (st.map (z_tr ρ)) (z_Q D cT ρ H.size h o h' (av.map (z_tr ρ)).toArray) (z_XC D cT ρ H.size h o h') (z_A ρ h H.size))
    (kk : ∀ ov : Option Value, o = .inr ov → WP X nL (k + rmc.cells) (n + rmc.slots) (pc + 3) lv (ov.toList ++ st) h')
    (kx : ∀ Ex : String, o = .inl Ex → WPX X nL (k + rmc.cells) (n + rmc.slots) pc lv h' Ex) : WP X nL k n pc lv st0 h := by
  subst hst
  obtain ⟨⟨p, l, e, R, s, m, args, below, meth, c⟩, D, cT, A, Q, ρ0, h0⟩ := X
  intro ρ H locs ls hI a1 a2 hL
  exact z_callW E hI a1 (fun v hv => a2 v (List.mem_append_right _ hv)) hL (run ρ H locs ls hI (fun v hv => a2 v (List.mem_append_left _ (List.mem_reverse.mpr hv))) hL.1) kk kx
end CALLS
