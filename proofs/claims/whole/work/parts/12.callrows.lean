section CALLK
theorem z_good {w : Cond} (h : w ∈ z_ws) : goodWord w = true := (List.mem_filter.mp h).2
def z_l (X : PX) : Launch := X.1.2.1
def z_Y (y : MethodName) (cb : ByteArray) (maxL : Nat) (ry : Option FieldType) (np : Nat) : Prop := Cond.code y cb maxL ry ∈ z_ws ∧ Cond.initialized y.cls ∈ z_ws ∧ (y.cls ≠ "java/lang/invoke/MethodHandle" ∧ y.cls ≠ "java/lang/invoke/VarHandle") ∧ (parseMethodDescriptor y.desc).map (fun d => d.parameters.length) = some np
def z_YH (y : MethodName) (cb : ByteArray) (maxL : Nat) (ry : Option FieldType) (hh : List (Nat × Nat × Nat × Nat)) (np : Nat) : Prop := Cond.codeWith y cb maxL ry hh ∈ z_ws ∧ Cond.initialized y.cls ∈ z_ws ∧ (y.cls ≠ "java/lang/invoke/MethodHandle" ∧ y.cls ≠ "java/lang/invoke/VarHandle") ∧ (parseMethodDescriptor y.desc).map (fun d => d.parameters.length) = some np
def z_W (y : MethodName) (cb : ByteArray) (maxL : Nat) (ry : Option FieldType) : List Cond := Cond.code y cb maxL ry :: z_ws
def z_WH (y : MethodName) (cb : ByteArray) (maxL : Nat) (ry : Option FieldType) (hh : List (Nat × Nat × Nat × Nat)) : List Cond := Cond.codeWith y cb maxL ry hh :: z_ws
theorem z_pay {args : Array Value} {s : State} (g : ∀ w ∈ z_ws, w.before args s = true) {w0 : Cond} (h0 : w0 ∈ z_ws) : ∀ w ∈ w0 :: z_ws, ∀ (a' : Array Value) (U : State), s.WarmedH U.vm → w.before a' U = true :=
  pay_in (big := z_ws) g fun w hw => by
    have hm : w ∈ z_ws := by
      rcases List.mem_cons.mp hw with rfl | hw
      · exact h0
      · exact hw
    exact ⟨hm, good_of_word (z_good hm)⟩
theorem z_np {y : MethodName} {np n : Nat} (h : (parseMethodDescriptor y.desc).map (fun d => d.parameters.length) = some np) (hn : n = np) : ∀ sig, parseMethodDescriptor y.desc = some sig → n = sig.parameters.length := fun sig hs => by
  rw [hs] at h
  exact hn.trans (Option.some.inj h).symm
def z_Run (X : PX) (nL k n pc : Nat) (rmc : Room) (st0 st av : List Value) (h : PH) (o : String ⊕ Option Value) (h' : PH) : Prop := ∀ (ρ : Nat → Nat) (H : Heap) (locs : List Loc) (ls : Array Slot), z_In X ρ h H locs → (∀ v ∈ av, z_okV h.1 v) → ls.size = nL → match X with
  | ((p, l, e, R, s, m, args, below, meth, c), D, cT, _, _, _, _) => vx_Run p l e R s m args below meth c H locs k n rmc.cells rmc.slots (F0 m pc ls (st0.map (z_tr ρ))) (st.map (z_tr ρ)) (z_Q D cT ρ H.size h o h' (av.map (z_tr ρ)).toArray) (z_XC D cT ρ H.size h o h') (z_A ρ h H.size)
theorem z_gd_spec {h : PH} {a ci : Nat} (hg : gd h a ci = some ()) : ∃ fs, h.2 a = .inr (ci, fs) := by
  unfold gd at hg
  split at hg
  · rename_i q hc
    split at hg
    · rename_i hq
      subst hq
      exact ⟨q.2, hc⟩
    · cases hg
  · cases hg
theorem z_rcv {p : Program} {l : Launch} {e : Env} {R : Room} {s : State} {m : MethodId} {args : Array Value} {below : List Frame} {meth : Method} {c : Code} {D : va_G} {cT : FieldType → ClassId} {A : Nat → Prop} {Q : State → Prop} {ρ0 ρ : Nat → Nat} {h0 h : PH} {H : Heap} {locs : List Loc} (hI : z_In ((p, l, e, R, s, m, args, below, meth, c), D, cT, A, Q, ρ0, h0) ρ h H locs) (hK : va_K D vwCl (z_tys cT) s) {a ci : Nat} {C : String} {T : u_T} {N : Nat} (hci : vwCl[ci]? = some (C, T, N)) (hg : gd h a ci = some ()) (ha : a < h.1) : ∃ cellB : Cell, H[ρ a]? = some cellB ∧ cellB.vm.isStatics = false ∧ s.vm.findClass C = some cellB.cls := by
  obtain ⟨i1, i2, i3, i4, i5, i6, i7⟩ := hI
  obtain ⟨fs, hc⟩ := z_gd_spec hg
  by_cases hk : kK ≤ a
  · exact va_recv hK i1 hci (q0 := a - kK) (fs := fs.map (z_tr ρ)) (by rw [z_ws_at hk ha, hc]; rfl)
  · have o := i6 a (by omega)
    rw [hc] at o
    obtain ⟨o1, -⟩ := o _ hci
    obtain ⟨cell, q1, q2, q3, q4⟩ := o1
    exact ⟨cell, by rw [i3.2.1 (ρ a) (Array.getElem?_eq_some_iff.mp q1).1 q4]; exact q1, q2, q3⟩
variable {X : PX} {cc : ByteArray} {own nm : String} {nL : Nat} {rm : Room} {ret : Option FieldType} {k n pc : Nat} {lv : List (Nat × Value)} {st st0 : List Value} {h h' : PH} {rmc : Room} {av : List Value} {o : String ⊕ Option Value}
theorem z_kG (E : z_E X cc own nm nL rm ret) (R : z_Run X nL k n pc rmc st0 st av h o h') (hst : st0 = av.reverse ++ st)
    (kk : ∀ ov : Option Value, o = .inr ov → WP X nL (k + rmc.cells) (n + rmc.slots) (pc + 3) lv (ov.toList ++ st) h') (kx : ∀ Ex : String, o = .inl Ex → WPX X nL (k + rmc.cells) (n + rmc.slots) pc lv h' Ex) : WP X nL k n pc lv st0 h := z_callG (l := z_l X) E hst R kk kx
theorem z_kR (E : z_E X cc own nm nL rm ret) {v : Value} (R : z_Run X nL k n pc rmc st0 st av h (.inr (some v)) h') (hst : st0 = av.reverse ++ st) (kk : WP X nL (k + rmc.cells) (n + rmc.slots) (pc + 3) lv (v :: st) h') : WP X nL k n pc lv st0 h :=
  z_kG E R hst (fun ov q => by cases q; exact kk) (fun Ex q => by cases q)
theorem z_kV (E : z_E X cc own nm nL rm ret) (R : z_Run X nL k n pc rmc st0 st av h (.inr none) h') (hst : st0 = av.reverse ++ st) (kk : WP X nL (k + rmc.cells) (n + rmc.slots) (pc + 3) lv st h') : WP X nL k n pc lv st0 h :=
  z_kG E R hst (fun ov q => by cases q; exact kk) (fun Ex q => by cases q)
theorem z_kX (E : z_E X cc own nm nL rm ret) {Ex : String} (R : z_Run X nL k n pc rmc st0 st av h (.inl Ex) h') (hst : st0 = av.reverse ++ st) (kk : WPX X nL (k + rmc.cells) (n + rmc.slots) pc lv h' Ex) : WP X nL k n pc lv st0 h :=
  z_kG E R hst (fun ov q => by cases q) (fun Ex q => by cases q; exact kk)
theorem z_tr_rev (ρ : Nat → Nat) (av : List Value) (st : List Value) : (av.reverse ++ st).map (z_tr ρ) = (av.map (z_tr ρ)).reverse ++ st.map (z_tr ρ) := by rw [List.map_append, List.map_reverse]
variable {y : MethodName} {cb : ByteArray} {ry : Option FieldType} {ix ci a np maxL : Nat} {C : String} {T : u_T} {N : Nat}
theorem z_rV (E : z_E X cc own nm nL rm ret) (Y : z_Y y cb maxL ry np) (F : Cond.methodLink own ix y ∈ z_ws ∧ Cond.instanceMethod y ∈ z_ws ∧ Cond.selects C y y ∈ z_ws) (hci : vwCl[ci]? = some (C, T, N)) (cm : CMet (z_l X) y (z_W y cb maxL ry) rmc h (.ref a :: av) o h') (d : decode cc pc = .ok (.invokevirtual ix, 3)) (hg : gd h a ci = some ()) (hn : av.length = np)
    (hst : st0 = av.reverse ++ .ref a :: st) (hf : rmc.frames + 1 ≤ rm.frames) (hlo : 8 + (maxL + 11) + rmc.locals ≤ rm.locals) (hk : k + rmc.cells ≤ rm.cells) (hs : n + rmc.slots ≤ rm.slots) (hc8 : (st.map fun v => v.category).sum ≤ 8) : z_Run X nL k n pc rmc st0 st (.ref a :: av) h o h' := by
  obtain ⟨⟨p, l, e, R, s, m, args, below, meth, c⟩, D, cT, A, Q, ρ0, h0⟩ := X
  intro ρ H locs ls hI hav hsz
  obtain ⟨g1, g2, g3, g4, g5, g6, g7, g8, g9, g10, g11, g12⟩ := E
  subst g10; subst hst
  exact vx_runV (Ts := z_ws) (own := own) (C := C) (b := ρ a) (As := av.map (z_tr ρ)) (rest := st.map (z_tr ρ)) ⟨g1, g2, g3, g4, g5⟩ (cm D cT ρ H.size)
    ⟨⟨rfl, rfl, hf, hlo, z_pay g5 Y.1, List.mem_cons_self, g5 _ Y.1, g5 _ Y.2.1, Y.2.2.1, z_np Y.2.2.2 (by rw [← hn, List.length_map]), g5 _ F.1⟩, g5 _ F.2.1, g5 _ F.2.2⟩
    ⟨z_blind, z_rcv hI g6 hci hg (hav _ List.mem_cons_self), fun U hU hW => z_pre hI g6 g7 hav hU hW⟩ rfl rfl hsz (z_tr_rev ρ av (.ref a :: st)) (lv_room (by rw [z_sum_cat]; exact hc8)) d ⟨hk, hs⟩
theorem z_rVN {host : String} (E : z_E X cc own nm nL rm ret) (Y : z_Y y cb maxL ry np) (F : (own, ix, y, host) ∈ kNest ∧ Cond.instanceMethod y ∈ z_ws ∧ Cond.selects C y y ∈ z_ws) (hci : vwCl[ci]? = some (C, T, N)) (cm : CMet (z_l X) y (z_W y cb maxL ry) rmc h (.ref a :: av) o h') (d : decode cc pc = .ok (.invokevirtual ix, 3)) (hg : gd h a ci = some ()) (hn : av.length = np)
    (hst : st0 = av.reverse ++ .ref a :: st) (hf : rmc.frames + 1 ≤ rm.frames) (hlo : 8 + (maxL + 11) + rmc.locals ≤ rm.locals) (hk : k + rmc.cells ≤ rm.cells) (hs : n + rmc.slots ≤ rm.slots) (hc8 : (st.map fun v => v.category).sum ≤ 8) : z_Run X nL k n pc rmc st0 st (.ref a :: av) h o h' := by
  obtain ⟨⟨p, l, e, R, s, m, args, below, meth, c⟩, D, cT, A, Q, ρ0, h0⟩ := X
  intro ρ H locs ls hI hav hsz
  obtain ⟨g1, g2, g3, g4, g5, g6, g7, g8, g9, g10, g11, g12⟩ := E
  subst g10; subst hst
  have hG := hI.2.2.2.2.2.2.1
  exact vx_runVN (Ts := z_ws) (own := own) (C := C) (host := host) (b := ρ a) (As := av.map (z_tr ρ)) (rest := st.map (z_tr ρ)) ⟨g1, g2, g3, g4, g5⟩ (cm D cT ρ H.size)
    ⟨⟨⟨rfl, rfl, hf, hlo, z_pay g5 Y.1, List.mem_cons_self⟩, g5 _ Y.1, g5 _ Y.2.1, Y.2.2.1, z_np Y.2.2.2 (by rw [← hn, List.length_map]), va_Nw.use rfl (hG.2.2.2.2.1 _ F.1)⟩, g5 _ F.2.1, g5 _ F.2.2⟩
    ⟨z_blind, z_rcv hI g6 hci hg (hav _ List.mem_cons_self), fun U hU hW => z_pre hI g6 g7 hav hU hW⟩ rfl rfl hsz (z_tr_rev ρ av (.ref a :: st)) (lv_room (by rw [z_sum_cat]; exact hc8)) d ⟨hk, hs⟩
theorem z_rS (E : z_E X cc own nm nL rm ret) (Y : z_Y y cb maxL ry np) (F : Cond.methodLink own ix y ∈ z_ws ∧ Cond.static y ∈ z_ws) (cm : CMet (z_l X) y (z_W y cb maxL ry) rmc h av o h') (d : decode cc pc = .ok (.invokestatic ix, 3)) (hn : av.length = np)
    (hst : st0 = av.reverse ++ st) (hf : rmc.frames + 1 ≤ rm.frames) (hlo : 8 + (maxL + 11) + rmc.locals ≤ rm.locals) (hk : k + rmc.cells ≤ rm.cells) (hs : n + rmc.slots ≤ rm.slots) (hc8 : (st.map fun v => v.category).sum ≤ 8) : z_Run X nL k n pc rmc st0 st av h o h' := by
  obtain ⟨⟨p, l, e, R, s, m, args, below, meth, c⟩, D, cT, A, Q, ρ0, h0⟩ := X
  intro ρ H locs ls hI hav hsz
  obtain ⟨g1, g2, g3, g4, g5, g6, g7, g8, g9, g10, g11, g12⟩ := E
  subst g10; subst hst
  exact vx_runS (Ts := z_ws) (own := own) (As := av.map (z_tr ρ)) (rest := st.map (z_tr ρ)) ⟨g1, g2, g3, g4, g5⟩ (cm D cT ρ H.size)
    ⟨⟨rfl, rfl, hf, hlo, z_pay g5 Y.1, List.mem_cons_self, g5 _ Y.1, g5 _ Y.2.1, Y.2.2.1, z_np Y.2.2.2 (by rw [← hn, List.length_map]), g5 _ F.1⟩, g5 _ F.2⟩
    ⟨z_blind, fun U hU hW => z_pre hI g6 g7 hav hU hW⟩ rfl rfl hsz (z_tr_rev ρ av st) (lv_room (by rw [z_sum_cat]; exact hc8)) d ⟨hk, hs⟩
theorem z_rSN {host : String} (E : z_E X cc own nm nL rm ret) (Y : z_Y y cb maxL ry np) (F : (own, ix, y, host) ∈ kNest ∧ Cond.static y ∈ z_ws) (cm : CMet (z_l X) y (z_W y cb maxL ry) rmc h av o h') (d : decode cc pc = .ok (.invokestatic ix, 3)) (hn : av.length = np)
    (hst : st0 = av.reverse ++ st) (hf : rmc.frames + 1 ≤ rm.frames) (hlo : 8 + (maxL + 11) + rmc.locals ≤ rm.locals) (hk : k + rmc.cells ≤ rm.cells) (hs : n + rmc.slots ≤ rm.slots) (hc8 : (st.map fun v => v.category).sum ≤ 8) : z_Run X nL k n pc rmc st0 st av h o h' := by
  obtain ⟨⟨p, l, e, R, s, m, args, below, meth, c⟩, D, cT, A, Q, ρ0, h0⟩ := X
  intro ρ H locs ls hI hav hsz
  obtain ⟨g1, g2, g3, g4, g5, g6, g7, g8, g9, g10, g11, g12⟩ := E
  subst g10; subst hst
  have hG := hI.2.2.2.2.2.2.1
  exact vx_runSN (Ts := z_ws) (own := own) (host := host) (As := av.map (z_tr ρ)) (rest := st.map (z_tr ρ)) ⟨g1, g2, g3, g4, g5⟩ (cm D cT ρ H.size)
    ⟨⟨⟨rfl, rfl, hf, hlo, z_pay g5 Y.1, List.mem_cons_self⟩, g5 _ Y.1, g5 _ Y.2.1, Y.2.2.1, z_np Y.2.2.2 (by rw [← hn, List.length_map]), va_Nw.use rfl (hG.2.2.2.2.1 _ F.1)⟩, g5 _ F.2, trivial⟩
    ⟨z_blind, fun U hU hW => z_pre hI g6 g7 hav hU hW⟩ rfl rfl hsz (z_tr_rev ρ av st) (lv_room (by rw [z_sum_cat]; exact hc8)) d ⟨hk, hs⟩
theorem z_rI (E : z_E X cc own nm nL rm ret) (Y : z_Y y cb maxL none np) (F : Cond.methodLink own ix y ∈ z_ws ∧ y.name = "<init>" ∧ Cond.instanceMethod y ∈ z_ws) (cm : CMet (z_l X) y (z_W y cb maxL none) rmc h (.ref a :: av) o h') (d : decode cc pc = .ok (.invokespecial ix, 3)) (hn : av.length = np)
    (hst : st0 = av.reverse ++ .ref a :: st) (hf : rmc.frames + 1 ≤ rm.frames) (hlo : 8 + (maxL + 11) + rmc.locals ≤ rm.locals) (hk : k + rmc.cells ≤ rm.cells) (hs : n + rmc.slots ≤ rm.slots) (hc8 : (st.map fun v => v.category).sum ≤ 8) : z_Run X nL k n pc rmc st0 st (.ref a :: av) h o h' := by
  obtain ⟨⟨p, l, e, R, s, m, args, below, meth, c⟩, D, cT, A, Q, ρ0, h0⟩ := X
  intro ρ H locs ls hI hav hsz
  obtain ⟨g1, g2, g3, g4, g5, g6, g7, g8, g9, g10, g11, g12⟩ := E
  subst g10; subst hst
  exact vx_runI (Ts := z_ws) (own := own) (b := ρ a) (As := av.map (z_tr ρ)) (rest := st.map (z_tr ρ)) ⟨g1, g2, g3, g4, g5⟩ (cm D cT ρ H.size)
    ⟨⟨rfl, rfl, hf, hlo, z_pay g5 Y.1, List.mem_cons_self, g5 _ Y.1, g5 _ Y.2.1, Y.2.2.1, z_np Y.2.2.2 (by rw [← hn, List.length_map]), g5 _ F.1⟩, F.2.1, g5 _ F.2.2⟩
    ⟨z_blind, fun U hU hW => z_pre hI g6 g7 hav hU hW⟩ rfl rfl hsz (z_tr_rev ρ av (.ref a :: st)) (lv_room (by rw [z_sum_cat]; exact hc8)) d ⟨hk, hs⟩
theorem z_rIN {host : String} (E : z_E X cc own nm nL rm ret) (Y : z_Y y cb maxL none np) (F : (own, ix, y, host) ∈ kNest ∧ y.name = "<init>" ∧ Cond.instanceMethod y ∈ z_ws) (cm : CMet (z_l X) y (z_W y cb maxL none) rmc h (.ref a :: av) o h') (d : decode cc pc = .ok (.invokespecial ix, 3)) (hn : av.length = np)
    (hst : st0 = av.reverse ++ .ref a :: st) (hf : rmc.frames + 1 ≤ rm.frames) (hlo : 8 + (maxL + 11) + rmc.locals ≤ rm.locals) (hk : k + rmc.cells ≤ rm.cells) (hs : n + rmc.slots ≤ rm.slots) (hc8 : (st.map fun v => v.category).sum ≤ 8) : z_Run X nL k n pc rmc st0 st (.ref a :: av) h o h' := by
  obtain ⟨⟨p, l, e, R, s, m, args, below, meth, c⟩, D, cT, A, Q, ρ0, h0⟩ := X
  intro ρ H locs ls hI hav hsz
  obtain ⟨g1, g2, g3, g4, g5, g6, g7, g8, g9, g10, g11, g12⟩ := E
  subst g10; subst hst
  have hG := hI.2.2.2.2.2.2.1
  exact vx_runIN (Ts := z_ws) (own := own) (host := host) (b := ρ a) (As := av.map (z_tr ρ)) (rest := st.map (z_tr ρ)) ⟨g1, g2, g3, g4, g5⟩ (cm D cT ρ H.size)
    ⟨⟨⟨rfl, rfl, hf, hlo, z_pay g5 Y.1, List.mem_cons_self⟩, g5 _ Y.1, g5 _ Y.2.1, Y.2.2.1, z_np Y.2.2.2 (by rw [← hn, List.length_map]), va_Nw.use rfl (hG.2.2.2.2.1 _ F.1)⟩, F.2.1, g5 _ F.2.2⟩
    ⟨z_blind, fun U hU hW => z_pre hI g6 g7 hav hU hW⟩ rfl rfl hsz (z_tr_rev ρ av (.ref a :: st)) (lv_room (by rw [z_sum_cat]; exact hc8)) d ⟨hk, hs⟩
theorem z_rSX {hh : List (Nat × Nat × Nat × Nat)} (E : z_E X cc own nm nL rm ret) (Y : z_YH y cb maxL ry hh np) (F : Cond.methodLink own ix y ∈ z_ws ∧ Cond.static y ∈ z_ws) (cm : CMet (z_l X) y (z_WH y cb maxL ry hh) rmc h av o h') (d : decode cc pc = .ok (.invokestatic ix, 3)) (hn : av.length = np)
    (hst : st0 = av.reverse ++ st) (hf : rmc.frames + 1 ≤ rm.frames) (hlo : 8 + (maxL + 11) + rmc.locals ≤ rm.locals) (hk : k + rmc.cells ≤ rm.cells) (hs : n + rmc.slots ≤ rm.slots) (hc8 : (st.map fun v => v.category).sum ≤ 8) : z_Run X nL k n pc rmc st0 st av h o h' := by
  obtain ⟨⟨p, l, e, R, s, m, args, below, meth, c⟩, D, cT, A, Q, ρ0, h0⟩ := X
  intro ρ H locs ls hI hav hsz
  obtain ⟨g1, g2, g3, g4, g5, g6, g7, g8, g9, g10, g11, g12⟩ := E
  subst g10; subst hst
  exact vx_runSX (Ts := z_ws) (own := own) (hh := hh) (As := av.map (z_tr ρ)) (rest := st.map (z_tr ρ)) ⟨g1, g2, g3, g4, g5⟩ (cm D cT ρ H.size)
    ⟨⟨rfl, rfl, hf, hlo, z_pay g5 Y.1, List.mem_cons_self⟩, g5 _ Y.1, g5 _ Y.2.1, Y.2.2.1, z_np Y.2.2.2 (by rw [← hn, List.length_map]), g5 _ F.1, g5 _ F.2⟩
    ⟨z_blind, fun U hU hW => z_pre hI g6 g7 hav hU hW⟩ rfl rfl hsz (z_tr_rev ρ av st) (lv_room (by rw [z_sum_cat]; exact hc8)) d ⟨hk, hs⟩
end CALLK
section ENTRY
theorem z_sl_len (ρ : Nat → Nat) : ∀ av : List Value, (lg_sl (av.map (z_tr ρ))).length = (lg_sl av).length
  | [] => rfl
  | v :: vs => by
    have ih := z_sl_len ρ vs
    unfold lg_sl at ih ⊢
    rw [List.map_cons, List.flatMap_cons, List.flatMap_cons, List.length_append, List.length_append, ih, z_lm_cat]
    by_cases hc : v.category = 2
    · rw [if_pos hc, if_pos hc]; rfl
    · rw [if_neg hc, if_neg hc]; rfl
theorem z_ok_args {n : Nat} : ∀ {av : List Value} {i : Nat}, (∀ v ∈ av, z_okV n v) → ∀ q ∈ lv_args i av, z_okV n q.2
  | [], _, _, _, hq => by cases hq
  | v :: vs, i, h, q, hq => by
    rcases List.mem_cons.mp hq with rfl | hq
    · exact h _ List.mem_cons_self
    · exact z_ok_args (fun w hw => h w (List.mem_cons_of_mem _ hw)) q hq
theorem z_met {l : Launch} (hl : l.stackTraces = false) {y : MethodName} {cb : ByteArray} {maxL np : Nat} {ry : Option FieldType} (Y : z_Y y cb maxL ry np) (hp : plainName y.cls = true) {rm : Room} {h h' : PH} {av : List Value} {o : String ⊕ Option Value} (hsl : (lg_sl av).length ≤ maxL)
    (body : ∀ X : PX, z_l X = l → z_E X cb y.cls y.name maxL rm ry → z_T0 X → z_M X rm.cells rm.slots o h' → WP X maxL 0 0 0 (lv_args 0 av) [] h) : CMet l y (z_W y cb maxL ry) rm h av o h' := by
  intro D cT ρ sz
  refine vx_ofW (cc := cb) (maxL := maxL) (ret := ry) hp rfl ?_
  intro p e s m args below meth c s₁ B hml ht hP
  obtain ⟨rfl, rfl, h3, h4, h5, h6, h7, h8, h9, h10⟩ := hP
  have hts := atoms_spec (ws := z_W y cb maxL ry) B.pre
  have hz : ∀ w ∈ z_ws, w.before (av.map (z_tr ρ)).toArray s = true := fun w hw => hts w (List.mem_cons_of_mem _ hw)
  have hown : s.vm.findClass y.cls = some m.cls := findClass_of_methodNamed B.named
  have hw := body ((p, l, e, rm, s, m, (av.map (z_tr ρ)).toArray, below, meth, c), D, cT, z_A ρ h s.heap.size, vx_MQ below (z_Q D cT ρ s.heap.size h o h') (z_XC D cT ρ s.heap.size h o h') (av.map (z_tr ρ)).toArray s rm.cells rm.slots (z_A ρ h s.heap.size), ρ, h) rfl
    ⟨B.exec, B.bytes, hml, hown, hz, h3, fun q hq => Or.inr hq, hl, B.notSynchronized, rfl, B.returns, (name_of_methodNamed B.named B.method).1⟩ ht
    ⟨rfl, rfl⟩
  rw [lg_entry_eq]
  have hlen : (lg_sl (av.map (z_tr ρ))).length = (lg_sl av).length := z_sl_len ρ av
  exact hw ρ s.heap [] _ ⟨h4, h5, ⟨Nat.le_refl _, fun _ _ _ => rfl, fun q hq => by cases hq⟩, h6, h7, h8, h9, Nat.le_refl _, fun _ _ => rfl, fun _ _ => rfl⟩
    (z_ok_args h10) (fun v hv => by cases hv) (by rw [← z_lm_args]; exact lv_entry _ (by rw [hlen]; exact hsl))
end ENTRY
