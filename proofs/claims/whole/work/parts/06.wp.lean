/-! WP: the machine, at an instruction of a method, follows the pure picture -/
abbrev PX : Type := (Program × Launch × Env × Room × State × MethodId × Array Value × List Frame × Method × Code) × va_G × (FieldType → ClassId) × (Nat → Prop) × (State → Prop) × (Nat → Nat) × PH
def z_In (X : PX) (ρ : Nat → Nat) (h : PH) (H : Heap) (locs : List Loc) : Prop := match X with
  | ((_, _, _, _, s, _, _, _, _, _), D, cT, A, _, ρ0, h0) => va_P D vwCl (z_wsOf cT ρ h) H ∧ va_D A (z_wsOf cT ρ h) ∧ va_S A s.heap H locs ∧ kK ≤ h.1 ∧ (∀ a, a < h.1 → z_okC h.1 (h.2 a)) ∧ (∀ a, a < kK → z_kC ρ A s s.heap a (h.2 a)) ∧ z_G ρ A s s.heap ∧ h0.1 ≤ h.1 ∧ (∀ a, a < h0.1 → ρ a = ρ0 a) ∧ (∀ a, a < kK → h.2 a = h0.2 a)
def z_lm (ρ : Nat → Nat) (lv : List (Nat × Value)) : List (Nat × Value) := lv.map fun q => (q.1, z_tr ρ q.2)
def WP (X : PX) (nL k n pc : Nat) (lv : List (Nat × Value)) (st : List Value) (h : PH) : Prop := ∀ (ρ : Nat → Nat) (H : Heap) (locs : List Loc) (ls : Array Slot), z_In X ρ h H locs → (∀ q ∈ lv, z_okV h.1 q.2) → (∀ v ∈ st, z_okV h.1 v) → lv_has ls nL (z_lm ρ lv) →
  match X with
  | ((p, l, e, R, s, m, args, below, meth, c), _, _, _, Q, _, _) => W p l e R s m args below meth c H locs k n Q (F0 m pc ls (st.map (z_tr ρ)))
/-- .. where an exception of class E is in flight there -/
def WPX (X : PX) (nL k n pc : Nat) (lv : List (Nat × Value)) (h : PH) (E : String) : Prop := ∀ (ρ : Nat → Nat) (H : Heap) (locs : List Loc) (ls : Array Slot) (q : Addr) (ce : Cell) (rest : List Value), z_In X ρ h H locs → (∀ q ∈ lv, z_okV h.1 q.2) → lv_has ls nL (z_lm ρ lv) → H[q]? = some ce → ce.vm = .none →
  match X with
  | ((p, l, e, R, s, m, args, below, meth, c), _, _, _, Q, _, _) => s.vm.findClass E = some ce.cls → vx_W p l e R s m args below meth c H locs k n Q (F0 m pc ls rest) q
/-- what stands all through a method's body -/
def z_E (X : PX) (cc : ByteArray) (own nm : String) (nL : Nat) (rm : Room) (ret : Option FieldType) : Prop := match X with
  | ((p, l, _, R, s, m, args, _, meth, c), D, cT, A, _, _, _) => p.tables.exec = Jvm.exec ∧ c.code = cc ∧ c.maxLocals = nL ∧ s.vm.findClass own = some m.cls ∧ (∀ w ∈ z_ws, w.before args s = true) ∧ va_K D vwCl (z_tys cT) s ∧ (∀ q, s.heap.size ≤ q → A q) ∧ l.stackTraces = false ∧ meth.locks = false ∧ R = rm ∧ meth.sig.returnType = ret ∧ meth.name = nm
def z_T0 (X : PX) : Prop := match X with
  | ((_, _, _, _, _, _, _, _, _, c), _) => ∀ x ∈ c.exceptionTable.toList, False
def z_R (D : va_G) (cT : FieldType → ClassId) (ρ0 : Nat → Nat) (sz : Nat) (h0 h' : PH) (ρ' : Nat → Nat) (t : State) : Prop :=
  va_P D vwCl (z_wsOf cT ρ' h') t.heap ∧ va_D (z_A ρ0 h0 sz) (z_wsOf cT ρ' h') ∧ (∀ a, a < h'.1 → z_okC h'.1 (h'.2 a)) ∧ kK ≤ h'.1 ∧ h0.1 ≤ h'.1 ∧ (∀ a, a < h0.1 → ρ' a = ρ0 a) ∧ ∀ a, a < kK → h'.2 a = h0.2 a
def z_Q (D : va_G) (cT : FieldType → ClassId) (ρ0 : Nat → Nat) (sz : Nat) (h0 : PH) (o : String ⊕ Option Value) (h' : PH) : Array Value → State → Outcome → State → Prop := fun _ st oc t =>
  (∃ (ov : Option Value) (ρ' : Nat → Nat), o = .inr ov ∧ oc = .returned (ov.map (z_tr ρ')) ∧ z_R D cT ρ0 sz h0 h' ρ' t ∧ ∀ v, ov = some v → z_okV h'.1 v) ∧ va_F (z_A ρ0 h0 sz) st t
def z_XC (D : va_G) (cT : FieldType → ClassId) (ρ0 : Nat → Nat) (sz : Nat) (h0 : PH) (o : String ⊕ Option Value) (h' : PH) : String → State → State → Prop := fun E st t =>
  (o = .inl E ∧ ∃ ρ' : Nat → Nat, z_R D cT ρ0 sz h0 h' ρ' t) ∧ va_F (z_A ρ0 h0 sz) st t
def z_M (X : PX) (mc ms : Nat) (o : String ⊕ Option Value) (h' : PH) : Prop := match X with
  | ((_, _, _, _, s, _, args, below, _, _), D, cT, A, Q, ρ0, h0) => A = z_A ρ0 h0 s.heap.size ∧ Q = vx_MQ below (z_Q D cT ρ0 s.heap.size h0 o h') (z_XC D cT ρ0 s.heap.size h0 o h') args s mc ms A
def z_Pc (D : va_G) (cT : FieldType → ClassId) (ρ : Nat → Nat) (sz : Nat) (h : PH) (av : List Value) : Array Value → State → Prop := fun a U =>
  a = (av.map (z_tr ρ)).toArray ∧ U.heap.size = sz ∧ va_K D vwCl (z_tys cT) U ∧ va_P D vwCl (z_wsOf cT ρ h) U.heap ∧ va_D (z_A ρ h sz) (z_wsOf cT ρ h) ∧ kK ≤ h.1 ∧ (∀ a, a < h.1 → z_okC h.1 (h.2 a)) ∧ (∀ a, a < kK → z_kC ρ (z_A ρ h sz) U U.heap a (h.2 a)) ∧ z_G ρ (z_A ρ h sz) U U.heap ∧ ∀ v ∈ av, z_okV h.1 v
/-- A METHOD'S CONTRACT: from the pure heap h with the arguments av it comes to the outcome o and the pure heap h' -/
def CMet (l : Launch) (y : MethodName) (ws : List Cond) (rm : Room) (h : PH) (av : List Value) (o : String ⊕ Option Value) (h' : PH) : Prop :=
  ∀ (D : va_G) (cT : FieldType → ClassId) (ρ : Nat → Nat) (sz : Nat), vx_Met l y ws rm (z_Pc D cT ρ sz h av) (z_Q D cT ρ sz h o h') (z_XC D cT ρ sz h o h') rm.cells rm.slots (z_A ρ h sz)
theorem z_blind {D : va_G} {cT : FieldType → ClassId} {ρ : Nat → Nat} {sz : Nat} {h : PH} {av : List Value} : FrameBlind (z_Pc D cT ρ sz h av) := by
  intro a U g mk hq
  obtain ⟨h1, h2, h3, h4, h5, h6, h7, h8, h9, h10⟩ := hq
  have hv : U.vm.Alike (U.calling g mk a).vm := Vm.Alike.refl U.vm
  refine ⟨h1, h2, va_K.moved hv h3, h4, h5, h6, h7, fun b hb => z_kC_move hv (fun _ _ _ => rfl) (fun _ q => q) (h8 b hb), ?_, h10⟩
  obtain ⟨g1, g2, g3, g4, g5, g6, g7, g8, g9, g10⟩ := h9
  exact ⟨fun q hq => vk_R.same rfl (g1 q hq), fun q hq => va_Z.moved hv (g2 q hq), vx_Zq.moved hv g3, vx_Zq.moved hv g4, fun q hq => va_Nw.same rfl rfl (g5 q hq), fun q hq => va_Nw.same rfl rfl (g6 q hq), fun q hq => va_Nw.same (u := U) (kBad_tab q hq) rfl (g7 q hq), fun q hq => va_Nc.moved hv (g8 q hq), va_AO.moved hv g9, vx_Zq.moved hv g10⟩
theorem z_lm_cat (ρ : Nat → Nat) (v : Value) : (z_tr ρ v).category = v.category := by cases v <;> rfl
theorem z_sum_cat (ρ : Nat → Nat) (st : List Value) : ((st.map (z_tr ρ)).map fun v => v.category).sum = (st.map fun v => v.category).sum := by
  rw [List.map_map]
  exact congrArg List.sum (List.map_congr_left fun v _ => z_lm_cat ρ v)
theorem z_lm_args (ρ : Nat → Nat) : ∀ (vs : List Value) (i : Nat), lv_args i (vs.map (z_tr ρ)) = z_lm ρ (lv_args i vs)
  | [], _ => rfl
  | v :: vs, i => by
    show (i, z_tr ρ v) :: lv_args _ (vs.map (z_tr ρ)) = (i, z_tr ρ v) :: z_lm ρ (lv_args _ vs)
    rw [z_lm_cat, z_lm_args ρ vs]
theorem z_lm_at {ρ : Nat → Nat} {ls : Array Slot} {nL : Nat} {lv : List (Nat × Value)} (hL : lv_has ls nL (z_lm ρ lv)) (j : Nat) {i : Nat} {v : Value} (hj : lv[j]? = some (i, v)) : ls[i]? = some (.val (z_tr ρ v)) :=
  lv_at hL j (by unfold z_lm; rw [List.getElem?_map, hj]; rfl)
theorem z_lm_set1 {ρ : Nat → Nat} {i : Nat} {v : Value} {lv lv' : List (Nat × Value)} (hl : (i, v) :: lv.filter (fun q => !(q.1 == i) && !(q.1 + 1 == i && q.2.category == 2)) = lv') : (i, z_tr ρ v) :: (z_lm ρ lv).filter (fun q => !(q.1 == i) && !(q.1 + 1 == i && q.2.category == 2)) = z_lm ρ lv' := by
  subst hl
  unfold z_lm
  rw [List.map_cons, List.filter_map]
  congr 1
  congr 1
  refine List.filter_congr fun q _ => ?_
  show (_ && !(_ && (z_tr ρ q.2).category == 2)) = _
  rw [z_lm_cat]
theorem z_lm_set2 {ρ : Nat → Nat} {i : Nat} {v : Value} {lv lv' : List (Nat × Value)} (hl : (i, v) :: lv.filter (fun q => !(q.1 == i) && (!(q.1 == i + 1) && !(q.1 + 1 == i && q.2.category == 2))) = lv') : (i, z_tr ρ v) :: (z_lm ρ lv).filter (fun q => !(q.1 == i) && (!(q.1 == i + 1) && !(q.1 + 1 == i && q.2.category == 2))) = z_lm ρ lv' := by
  subst hl
  unfold z_lm
  rw [List.map_cons, List.filter_map]
  congr 1
  congr 1
  refine List.filter_congr fun q _ => ?_
  show (_ && (_ && !(_ && (z_tr ρ q.2).category == 2))) = _
  rw [z_lm_cat]
theorem z_ok_set {n i : Nat} {v : Value} {lv lv' : List (Nat × Value)} {f : Nat × Value → Bool} (hl : (i, v) :: lv.filter f = lv') (hv : z_okV n v) (h : ∀ q ∈ lv, z_okV n q.2) : ∀ q ∈ lv', z_okV n q.2 := by
  subst hl
  intro q hq
  rcases List.mem_cons.mp hq with rfl | hq
  · exact hv
  · exact h q (List.mem_filter.mp hq).1
theorem z_ok_hd {n : Nat} {v : Value} {st : List Value} (h : ∀ w ∈ v :: st, z_okV n w) : z_okV n v := h v List.mem_cons_self
theorem z_ok_tl {n : Nat} {v : Value} {st : List Value} (h : ∀ w ∈ v :: st, z_okV n w) : ∀ w ∈ st, z_okV n w := fun w hw => h w (List.mem_cons_of_mem _ hw)
theorem z_ok_cons {n : Nat} {v : Value} {st : List Value} (hv : z_okV n v) (h : ∀ w ∈ st, z_okV n w) : ∀ w ∈ v :: st, z_okV n w := fun w hw => by
  rcases List.mem_cons.mp hw with rfl | hw
  · exact hv
  · exact h w hw
theorem z_ok_ap {n : Nat} {a b : List Value} (h : ∀ w ∈ a ++ b, z_okV n w) : (∀ w ∈ a, z_okV n w) ∧ ∀ w ∈ b, z_okV n w := ⟨fun w hw => h w (List.mem_append_left _ hw), fun w hw => h w (List.mem_append_right _ hw)⟩
/-- fewer locals known -/
theorem z_sub {X : PX} {nL k n pc : Nat} {lv lv' : List (Nat × Value)} {st : List Value} {h : PH} (ks : List Nat) (hl : lv_pick lv ks = lv') (kk : WP X nL k n pc lv' st h) : WP X nL k n pc lv st h := by
  intro ρ H locs ls hI h1 h2 hL
  have hm : ∀ q ∈ lv', q ∈ lv := fun q hq => by
    rw [← hl] at hq
    obtain ⟨i, -, hi⟩ := List.mem_filterMap.mp hq
    exact List.mem_of_getElem? hi
  exact kk ρ H locs ls hI (fun q hq => h1 q (hm q hq)) h2 ⟨hL.1, hL.2.1, fun q hq => by
    obtain ⟨q0, h3, rfl⟩ := List.mem_map.mp hq
    exact hL.2.2 _ (List.mem_map.mpr ⟨q0, hm q0 h3, rfl⟩)⟩
/-- more room used, so to say -/
theorem z_wide {X : PX} {nL k n k' n' pc : Nat} {lv : List (Nat × Value)} {st : List Value} {h : PH} (h1 : k ≤ k') (h2 : n ≤ n') (kk : WP X nL k' n' pc lv st h) : WP X nL k n pc lv st h := by
  obtain ⟨⟨p, l, e, R, s, m, args, below, meth, c⟩, D, cT, A, Q, ρ0, h0⟩ := X
  intro ρ H locs ls hI a1 a2 hL
  exact W.widen h1 h2 (kk ρ H locs ls hI a1 a2 hL)
