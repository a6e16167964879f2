section MORE
variable {X : PX} {cc : ByteArray} {own nm : String} {nL : Nat} {rm : Room} {ret : Option FieldType} {k n pc : Nat} {lv : List (Nat × Value)} {st : List Value} {h : PH}
theorem z_El (E : z_E X cc own nm nL rm ret) : (z_l X).stackTraces = false := by
  obtain ⟨⟨p, l, e, R, s, m, args, below, meth, c⟩, D, cT, A, Q, ρ0, h0⟩ := X
  exact E.2.2.2.2.2.2.2.1
theorem z_gets (E : z_E X cc own nm nL rm ret) {C n' d' : String} {v : Value} {ix : Nat} (hm : (C, n', d', v) ∈ kSta) (hw : Cond.fieldLink own ix C n' d' ∈ z_ws) (d : decode cc pc = .ok (.getstatic ix, 3)) (kk : WP X nL k n (pc + 3) lv (v :: st) h) : WP X nL k n pc lv st h := by
  obtain ⟨⟨p, l, e, R, s, m, args, below, meth, c⟩, D, cT, A, Q, ρ0, h0⟩ := X
  intro ρ H locs ls hI a1 a2 hL
  obtain ⟨g1, g2, g3, g4, g5, g6⟩ := E
  obtain ⟨i1, i2, i3, i4, i5, i6, i7, i8⟩ := id hI
  have hv : z_okV h.1 v := z_okV_le i4 (kSta_ok _ hm)
  exact va_gets (v := z_tr ρ v) g1 g2 (i7.2.1 _ hm) i3 g4 (g5 _ hw) (fun _ q => q) d (kk ρ H locs ls hI a1 (z_ok_cons hv a2) hL)
theorem z_getsN (E : z_E X cc own nm nL rm ret) {C n' d' host : String} {v : Value} {ix : Nat} (hm : (C, n', d', v) ∈ kSta) (hw : (own, ix, C, n', d', host) ∈ kNestF) (d : decode cc pc = .ok (.getstatic ix, 3)) (kk : WP X nL k n (pc + 3) lv (v :: st) h) : WP X nL k n pc lv st h := by
  obtain ⟨⟨p, l, e, R, s, m, args, below, meth, c⟩, D, cT, A, Q, ρ0, h0⟩ := X
  intro ρ H locs ls hI a1 a2 hL
  obtain ⟨g1, g2, g3, g4, g5, g6⟩ := E
  obtain ⟨i1, i2, i3, i4, i5, i6, i7, i8⟩ := id hI
  have hv : z_okV h.1 v := z_okV_le i4 (kSta_ok _ hm)
  exact va_getsN (v := z_tr ρ v) g1 g2 (i7.2.1 _ hm) i3 g4 (va_Nw.use rfl (i7.2.2.2.2.2.1 _ hw)) (fun _ q => q) d (kk ρ H locs ls hI a1 (z_ok_cons hv a2) hL)
theorem z_ldcS (E : z_E X cc own nm nL rm ret) {ix a : Nat} {text : String} (hm : (own, ix, text, a) ∈ kStr) (d : decode cc pc = .ok (.ldc ix, 2)) (kk : WP X nL k n (pc + 2) lv (.ref a :: st) h) : WP X nL k n pc lv st h := by
  obtain ⟨⟨p, l, e, R, s, m, args, below, meth, c⟩, D, cT, A, Q, ρ0, h0⟩ := X
  intro ρ H locs ls hI a1 a2 hL
  obtain ⟨g1, g2, g3, g4, g5, g6⟩ := E
  obtain ⟨i1, i2, i3, i4, i5, i6, i7, i8⟩ := id hI
  have hv : z_okV h.1 (.ref a) := Nat.lt_of_lt_of_le (kStr_ok _ hm) i4
  exact va_ldcS g1 g2 g4 (i7.1 _ hm) d (kk ρ H locs ls hI a1 (z_ok_cons hv a2) hL)
theorem z_objInit (E : z_E X cc own nm nL rm ret) {ix a : Nat} (hw : Cond.methodLink own ix Lib.objectInit ∈ z_ws ∧ Cond.instanceMethod Lib.objectInit ∈ z_ws ∧ Cond.code Lib.objectInit ⟨#[0xb1]⟩ 1 none ∈ z_ws) (d : decode cc pc = .ok (.invokespecial ix, 3)) (hf : 1 ≤ rm.frames) (hlo : (st.map fun v => v.category).sum + 12 ≤ rm.locals) (kk : WP X nL k n (pc + 3) lv st h) : WP X nL k n pc lv (.ref a :: st) h := by
  obtain ⟨⟨p, l, e, R, s, m, args, below, meth, c⟩, D, cT, A, Q, ρ0, h0⟩ := X
  intro ρ H locs ls hI a1 a2 hL
  obtain ⟨g1, g2, g3, g4, g5, g6, g7, g8, g9, g10, g11, g12⟩ := E
  subst g10
  exact W.objInit g1 g2 g4 (g5 _ hw.1) (g5 _ hw.2.1) (g5 _ hw.2.2) (g := F0 m pc ls ((Value.ref a :: st).map (z_tr ρ))) (rest := st.map (z_tr ρ)) rfl (hL.1.trans g3.symm) rfl d hf (by rw [z_sum_cat]; show 2 * 0 + _ + 12 ≤ _; omega) (kk ρ H locs ls hI a1 (z_ok_tl a2) hL)
theorem z_dup_x1 (E : z_E X cc own nm nL rm ret) {va vb : Value} (d : decode cc pc = .ok (.dup_x1, 1)) (hc : va.category = 1) (hd : vb.category = 1) (kk : WP X nL k n (pc + 1) lv (va :: vb :: va :: st) h) : WP X nL k n pc lv (va :: vb :: st) h := by
  obtain ⟨⟨p, l, e, R, s, m, args, below, meth, c⟩, D, cT, A, Q, ρ0, h0⟩ := X
  intro ρ H locs ls hI a1 a2 hL
  exact lv_dup_x1 E.1 E.2.1 d (by rw [z_lm_cat]; exact hc) (by rw [z_lm_cat]; exact hd) (kk ρ H locs ls hI a1 (z_ok_cons (z_ok_hd a2) (z_ok_cons (z_ok_hd (z_ok_tl a2)) (z_ok_cons (z_ok_hd a2) (z_ok_tl (z_ok_tl a2))))) hL)
/-- super.m(..) -/
theorem z_rSU (E : z_E X cc own nm nL rm ret) {rmc : Room} {av st0 : List Value} {o : String ⊕ Option Value} {h' : PH} {y : MethodName} {cb : ByteArray} {ry : Option FieldType} {ix ci a np maxL : Nat} {C : String} {T : u_T} {N : Nat} (Y : z_Y y cb maxL ry np) (F : Cond.methodLink own ix y ∈ z_ws ∧ Cond.sameMethod y.cls y.cls y.name y.desc ∈ z_ws ∧ Cond.superclass own y.cls ∈ z_ws ∧ Cond.instanceMethod y ∈ z_ws ∧ y.name ≠ "<init>") (hci : vwCl[ci]? = some (C, T, N)) (cm : CMet (z_l X) y (z_W y cb maxL ry) rmc h (.ref a :: av) o h') (d : decode cc pc = .ok (.invokespecial ix, 3)) (hg : gd h a ci = some ()) (hn : av.length = np)
    (hst : st0 = av.reverse ++ .ref a :: st) (hf : rmc.frames + 1 ≤ rm.frames) (hlo : 8 + (maxL + 11) + rmc.locals ≤ rm.locals) (hk : k + rmc.cells ≤ rm.cells) (hs : n + rmc.slots ≤ rm.slots) (hc8 : (st.map fun v => v.category).sum ≤ 8) : z_Run X nL k n pc rmc st0 st (.ref a :: av) h o h' := by
  obtain ⟨⟨p, l, e, R, s, m, args, below, meth, c⟩, D, cT, A, Q, ρ0, h0⟩ := X
  intro ρ H locs ls hI hav hsz
  obtain ⟨g1, g2, g3, g4, g5, g6, g7, g8, g9, g10, g11, g12⟩ := E
  subst g10; subst hst
  exact vx_runSU (Ts := z_ws) (own := own) (C := C) (b := ρ a) (As := av.map (z_tr ρ)) (rest := st.map (z_tr ρ)) (g6.1 ci _ hci).2 ⟨g1, g2, g3, g4, g5⟩ (cm D cT ρ H.size)
    ⟨⟨rfl, rfl, hf, hlo, z_pay g5 Y.1, List.mem_cons_self⟩, g5 _ F.1, g5 _ F.2.1, g5 _ F.2.2.1, g5 _ F.2.2.2.1, g5 _ Y.2.1, g5 _ Y.1, F.2.2.2.2, z_np Y.2.2.2 (by rw [← hn, List.length_map])⟩
    ⟨z_blind, z_rcv hI g6 hci hg (hav _ List.mem_cons_self), fun U hU hW => z_pre hI g6 g7 hav hU hW⟩ rfl rfl hsz (z_tr_rev ρ av (.ref a :: st)) (lv_room (by rw [z_sum_cat]; exact hc8)) d ⟨hk, hs⟩
/-! handlers -/
def z_TT (X : PX) (hh : List (Nat × Nat × Nat × Nat)) : Prop := match X with
  | ((_, _, _, _, _, _, _, _, _, c), _) => c.exceptionTable.toList = tableOf hh
theorem z_catch (E : z_E X cc own nm nL rm ret) {hh : List (Nat × Nat × Nat × Nat)} (TT : z_TT X hh) {Ex : String} (np : Nat) {q : Nat × Nat × Nat × Nat} {i : Nat} {len : Nat} {lv2 : List (Nat × Value)} (hx : hh[np]? = some q) (hcv : covers ⟨q.1, q.2.1, q.2.2.1, q.2.2.2⟩ pc = true) (h0 : q.2.2.2 ≠ 0) (hl : Cond.classLink own q.2.2.2 Ex ∈ z_ws) (hc : Cond.castable Ex Ex ∈ kBad)
    (hpre : ∀ z ∈ hh.take np, z.2.2.2 ≠ 0 ∧ ∃ nm2 : String, Cond.classLink own z.2.2.2 nm2 ∈ z_ws ∧ (Ex, nm2) ∈ kNc) (d : (∃ f : Fin 4, decode cc q.2.2.1 = .ok (.astore_n f, 1) ∧ (f : Nat) = i ∧ len = 1) ∨ (decode cc q.2.2.1 = .ok (.astore i, 2) ∧ len = 2)) (hn : i < nL) (hl2 : lv.filter (fun q => !(q.1 == i) && !(q.1 + 1 == i && q.2.category == 2)) = lv2) (kk : WP X nL k n (q.2.2.1 + len) lv2 [] h) : WPX X nL k n pc lv h Ex := by
  obtain ⟨⟨p, l, e, R, s, m, args, below, meth, c⟩, D, cT, A, Q, ρ0, h0'⟩ := X
  intro ρ H locs ls qa ce rest hI a1 hL hq hv hcl
  obtain ⟨g1, g2, g3, g4, g5, g6, g7, g8, g9, g10, g11, g12⟩ := E
  have hG := hI.2.2.2.2.2.2.1
  have hsp : c.exceptionTable.toList = tableOf (hh.take np) ++ ⟨q.1, q.2.1, q.2.2.1, q.2.2.2⟩ :: tableOf (hh.drop (np + 1)) := by
    have e1 : hh = hh.take np ++ q :: hh.drop (np + 1) := by
      have hlt : np < hh.length := (List.getElem?_eq_some_iff.mp hx).1
      have hq2 : hh[np] = q := (List.getElem?_eq_some_iff.mp hx).2
      rw [← hq2, List.getElem_cons_drop, List.take_append_drop]
    have e2 : c.exceptionTable.toList = tableOf hh := TT
    rw [e2]
    conv => lhs; rw [e1]
    unfold tableOf
    rw [List.map_append, List.map_cons]
  refine vx_catch (own := own) (name := Ex) (E := Ex) (ce := ce) (q := qa) g4 _ _ _ hsp (fun z hz => ?_) hcv h0 (g5 _ hl) (va_Nw.use (kBad_tab _ hc) (hG.2.2.2.2.2.2.1 _ hc)) hq hv hcl ?_
  · obtain ⟨z', hz', rfl⟩ := List.mem_map.mp hz
    obtain ⟨r1, nm2, r2, r3⟩ := hpre z' hz'
    exact Or.inr ⟨r1, nm2, g5 _ r2, hG.2.2.2.2.2.2.2.1 _ r3⟩
  · have hfin : ∀ ls2 : Array Slot, lv_has ls2 nL ((i, Value.ref qa) :: (z_lm ρ lv).filter (fun q => !(q.1 == i) && !(q.1 + 1 == i && q.2.category == 2))) → W p l e R s m args below meth c H locs k n Q (F0 m (q.2.2.1 + len) ls2 []) := by
      intro ls2 h2
      have e5 := z_lm_set1 (ρ := ρ) (i := i) (v := .int 0) (lv := lv) rfl
      have e6 : (z_lm ρ lv).filter (fun q => !(q.1 == i) && !(q.1 + 1 == i && q.2.category == 2)) = z_lm ρ lv2 := by
        rw [← hl2]
        exact (List.cons.inj e5).2
      exact kk ρ H locs ls2 hI (fun x hx => a1 x (by rw [← hl2] at hx; exact (List.mem_filter.mp hx).1)) (fun v hv => by cases hv) ⟨h2.1, h2.2.1, fun x hx => h2.2.2 x (List.mem_cons_of_mem _ (by rw [e6]; exact hx))⟩
    rcases d with ⟨f, d1, d2, rfl⟩ | ⟨d1, rfl⟩
    · exact lv_astore_n g1 g2 d1 d2 hL hn rfl hfin
    · exact lv_astore g1 g2 d1 hL hn rfl hfin
end MORE
section ENTRYH
theorem z_metH {l : Launch} (hl : l.stackTraces = false) {y : MethodName} {cb : ByteArray} {maxL np : Nat} {ry : Option FieldType} {hh : List (Nat × Nat × Nat × Nat)} (Y : z_YH y cb maxL ry hh np) (hp : plainName y.cls = true) {rm : Room} {h h' : PH} {av : List Value} {o : String ⊕ Option Value} (hsl : (lg_sl av).length ≤ maxL)
    (body : ∀ X : PX, z_l X = l → z_E X cb y.cls y.name maxL rm ry → z_TT X hh → z_M X rm.cells rm.slots o h' → WP X maxL 0 0 0 (lv_args 0 av) [] h) : CMet l y (z_WH y cb maxL ry hh) rm h av o h' := by
  intro D cT ρ sz
  refine vx_ofWH (cc := cb) (maxL := maxL) (ret := ry) (hh := hh) hp rfl ?_
  intro p e s m args below meth c s₁ B hml hP
  obtain ⟨rfl, rfl, h3, h4, h5, h6, h7, h8, h9, h10⟩ := hP
  have hts := atoms_spec (ws := z_WH y cb maxL ry hh) B.pre
  have hz : ∀ w ∈ z_ws, w.before (av.map (z_tr ρ)).toArray s = true := fun w hw => hts w (List.mem_cons_of_mem _ hw)
  have hown : s.vm.findClass y.cls = some m.cls := findClass_of_methodNamed B.named
  have hw := body ((p, l, e, rm, s, m, (av.map (z_tr ρ)).toArray, below, meth, c), D, cT, z_A ρ h s.heap.size, vx_MQ below (z_Q D cT ρ s.heap.size h o h') (z_XC D cT ρ s.heap.size h o h') (av.map (z_tr ρ)).toArray s rm.cells rm.slots (z_A ρ h s.heap.size), ρ, h) rfl
    ⟨B.exec, B.bytes, hml, hown, hz, h3, fun q hq => Or.inr hq, hl, B.notSynchronized, rfl, B.returns, (name_of_methodNamed B.named B.method).1⟩ (vx_table (x := y) (y := y) B (hts _ List.mem_cons_self)) ⟨rfl, rfl⟩
  rw [lg_entry_eq]
  have hlen : (lg_sl (av.map (z_tr ρ))).length = (lg_sl av).length := z_sl_len ρ av
  exact hw ρ s.heap [] _ ⟨h4, h5, ⟨Nat.le_refl _, fun _ _ _ => rfl, fun q hq => by cases hq⟩, h6, h7, h8, h9, Nat.le_refl _, fun _ _ => rfl, fun _ _ => rfl⟩
    (z_ok_args h10) (fun v hv => by cases hv) (by rw [← z_lm_args]; exact lv_entry _ (by rw [hlen]; exact hsl))
end ENTRYH
section PURE
theorem ob {α β : Type} {o : Option α} {f : α → Option β} {r : β} (e : o.bind f = some r) : ∃ x, o = some x ∧ f x = some r := Option.bind_eq_some_iff.mp e
theorem oi {α : Type} {c : Prop} [Decidable c] {a b r : α} (e : (if c then a else b) = r) : (c ∧ a = r) ∨ (¬ c ∧ b = r) := by
  by_cases h : c
  · rw [if_pos h] at e; exact Or.inl ⟨h, e⟩
  · rw [if_neg h] at e; exact Or.inr ⟨h, e⟩
theorem os {α γ : Type} {q : String ⊕ α} {f : String → γ} {g : α → γ} {r : γ} (e : Sum.elim f g q = r) : (∃ E, q = .inl E ∧ f E = r) ∨ ∃ x, q = .inr x ∧ g x = r := by
  cases q with
  | inl E => exact Or.inl ⟨E, rfl, e⟩
  | inr x => exact Or.inr ⟨x, rfl, e⟩
def zoV (r : String ⊕ Unit) : String ⊕ Option Value := match r with
  | .inl e => .inl e
  | .inr _ => .inr none
def zoI (r : String ⊕ Int32) : String ⊕ Option Value := match r with
  | .inl e => .inl e
  | .inr x => .inr (some (.int x))
def zoD (r : String ⊕ UInt64) : String ⊕ Option Value := match r with
  | .inl e => .inl e
  | .inr x => .inr (some (.double x))
def zoF (r : String ⊕ UInt32) : String ⊕ Option Value := match r with
  | .inl e => .inl e
  | .inr x => .inr (some (.float x))
def alnK (h : PH) (a : Nat) : Option Int32 := if a < kK then (match h.2 a with
  | .inl (t, x) => if t = .int then some (Int32.ofNat x.1) else none
  | _ => none) else none
end PURE
