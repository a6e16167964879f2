/-- the rounds that a loop's reading is given: a number that the kernel does not unfold -/
noncomputable def FV : Nat := Classical.choose (⟨4096, rfl⟩ : ∃ n : Nat, n = 4096)
theorem FV_eq : FV = 4096 := Classical.choose_spec (⟨4096, rfl⟩ : ∃ n : Nat, n = 4096)
/-! bodies of methods whose class has some method that the machine runs otherwise, but not this one -/
section BODYF
theorem vx_ofWF {l : Launch} {y : MethodName} {ws ws' : List Cond} {rm : Room} {Pc : Array Value → State → Prop} {Qc : Array Value → State → Outcome → State → Prop} {XC : String → State → State → Prop} {mc ms : Nat} {free : Addr → Prop} {cc : ByteArray} {maxL : Nat} {ret : Option FieldType}
    (hy : plainFor y = true) (hw : ws = Cond.code y cc maxL ret :: ws')
    (body : ∀ p e s m args below meth c s₁, BodyLoose p l y (headSpec ws rm) cc maxL ret e s m args below meth c s₁ → c.maxLocals = maxL → (∀ x ∈ c.exceptionTable.toList, False) → Pc args s →
      W p l e (headSpec ws rm).room s m args below meth c s.heap [] 0 0 (vx_MQ below Qc XC args s mc ms free) (entryFrame m args maxL)) : vx_Met l y ws rm Pc Qc XC mc ms free := by
  refine MetFree.of_bodySF (code := cc) (maxLocals := maxL) (ret := ret) hy ?_ ?_
  · intro args s m h hn
    obtain ⟨meth, c, h1, h2, h3, h4, h5, h6, -, -⟩ := Cond.code_spec hn (atoms_spec (ws := ws) h _ (by rw [hw]; exact List.mem_cons_self))
    exact ⟨meth, c, h1, h2, h3, h4, h5, h6⟩
  · intro p e s m args below meth c s₁ B hml hP _
    have hh0 : s₁.heap = s.heap := by rw [B.state]; rfl
    have ht : ∀ x ∈ c.exceptionTable.toList, False := by
      obtain ⟨meth9, c9, h1, h2, -, -, -, -, h7, -⟩ := Cond.code_spec B.named (atoms_spec (ws := ws) B.pre _ (by rw [hw]; exact List.mem_cons_self))
      cases Option.some.inj (h1.symm.trans B.method)
      cases Option.some.inj (h2.symm.trans (Stand.of_body B).code)
      intro x hx
      rw [Array.isEmpty_iff.mp h7] at hx
      cases hx
    obtain ⟨t, a1, o, b1, b2, b3⟩ := body p e s m args below meth c s₁ B hml ht hP s₁ hh0 (Stand.of_body B)
    exact ⟨t, o, a1, b1, b2, b3⟩
theorem z_metF {l : Launch} (hl : l.stackTraces = false) {y : MethodName} {cb : ByteArray} {maxL np : Nat} {ry : Option FieldType} (Y : z_Y y cb maxL ry np) (hp : plainFor y = true) {rm : Room} {h h' : PH} {av : List Value} {o : String ⊕ Option Value} (hsl : (lg_sl av).length ≤ maxL)
    (body : ∀ X : PX, z_l X = l → z_E X cb y.cls y.name maxL rm ry → z_T0 X → z_M X rm.cells rm.slots o h' → WP X maxL 0 0 0 (lv_args 0 av) [] h) : CMet l y (z_W y cb maxL ry) rm h av o h' := by
  intro D cT ρ sz
  refine vx_ofWF (cc := cb) (maxL := maxL) (ret := ry) hp rfl ?_
  intro p e s m args below meth c s₁ B hml ht hP
  obtain ⟨rfl, rfl, h3, h4, h5, h6, h7, h8, h9, h10⟩ := hP
  have hts := atoms_spec (ws := z_W y cb maxL ry) B.pre
  have hz : ∀ w ∈ z_ws, w.before (av.map (z_tr ρ)).toArray s = true := fun w hw => hts w (List.mem_cons_of_mem _ hw)
  have hown : s.vm.findClass y.cls = some m.cls := findClass_of_methodNamed B.named
  have hw := body ((p, l, e, rm, s, m, (av.map (z_tr ρ)).toArray, below, meth, c), D, cT, z_A ρ h s.heap.size, vx_MQ below (z_Q D cT ρ s.heap.size h o h') (z_XC D cT ρ s.heap.size h o h') (av.map (z_tr ρ)).toArray s rm.cells rm.slots (z_A ρ h s.heap.size), ρ, h) rfl
    ⟨B.exec, B.bytes, hml, hown, hz, h3, fun q hq => Or.inr hq, hl, B.notSynchronized, rfl, B.returns, (name_of_methodNamed B.named B.method).1⟩ ht
    ⟨rfl, rfl⟩
  rw [lg_entry_eq]
  have hlen : (lg_sl (av.map (z_tr ρ))).length = (lg_sl av).length := z_sl_len ρ av
  exact hw ρ s.heap [] _ ⟨h4, h5, ⟨Nat.le_refl _, fun _ _ _ => rfl, fun q hq => by cases hq⟩, h6, h7, h8, h9, Nat.le_refl _, fun _ _ => rfl, fun _ _ => rfl⟩
    (z_ok_args h10) (fun v hv => by cases hv) (by rw [← z_lm_args]; exact lv_entry _ (by rw [hlen]; exact hsl))
end BODYF
/-! String.checkIndex, by hand: it hands on a static of which only 'a reference or null' is known -/
abbrev rmJ0_checkIndex_df160 : Room := { frames := 8, cells := 0, slots := 0, locals := 140 }
def f_J0_checkIndex_df160 (a0 a1 : Int32) : Option Unit := if a0 < 0 then none else if a0 < a1 then some () else none
abbrev rmJ3_ci : Room := { frames := 0, cells := 0, slots := 0, locals := 0 }
def z_cPc (i n : Int32) : Array Value → State → Prop := fun a _ => ∃ v : Value, a = ([.int i, .int n, v] : List Value).toArray ∧ (v = .null ∨ ∃ q, v = .ref q)
def z_cQ (i : Int32) : Array Value → State → Outcome → State → Prop := fun _ st oc t => oc = .returned (some (.int i)) ∧ va_F (fun _ => False) st t
theorem z_ci {l : Launch} {i n : Int32} (h1 : ¬ i < 0) (h2 : i < n) : vx_Met l yJ3_checkIndex_8e157 (z_W yJ3_checkIndex_8e157 cJ3_checkIndex_8e157 3 (some .int)) rmJ3_ci (z_cPc i n) (z_cQ i) (fun _ _ _ => False) 0 0 (fun _ => False) := by
  refine vx_ofW (cc := cJ3_checkIndex_8e157) (maxL := 3) (ret := some .int) (by decide +kernel) rfl ?_
  intro p e s m args below meth c s₁ B hml ht hP
  obtain ⟨v, rfl, hv⟩ := hP
  have hlen : (lg_sl [.int i, .int n, v]).length ≤ 3 := by rcases hv with rfl | ⟨q, rfl⟩ <;> exact Nat.le_of_ble_eq_true rfl
  rw [lg_entry_eq]
  have hL := lv_entry [.int i, .int n, v] hlen
  have hL2 : lv_args 0 [.int i, .int n, v] = [(0, .int i), (1, .int n), (2, v)] := rfl
  rw [hL2] at hL
  have g1 := B.exec
  have g2 := B.bytes
  refine lv_iload_n g1 g2 dJ3_checkIndex_8e157_0 rfl (lv_at hL 0 rfl) ?_
  refine lv_if_lt (tgt := 9) g1 g2 dJ3_checkIndex_8e157_1 rfl (fun z => absurd z h1) (fun _ => ?_)
  refine lv_iload_n g1 g2 dJ3_checkIndex_8e157_4 rfl (lv_at hL 0 rfl) ?_
  refine lv_iload_n g1 g2 dJ3_checkIndex_8e157_5 rfl (lv_at hL 1 rfl) ?_
  refine lv_icmp_lt (tgt := 16) g1 g2 dJ3_checkIndex_8e157_6 rfl (fun _ => ?_) (fun z => absurd h2 z)
  refine lv_iload_n g1 g2 dJ3_checkIndex_8e157_16 rfl (lv_at hL 0 rfl) ?_
  have hS : va_S (fun _ => False) s.heap s.heap [] := ⟨Nat.le_refl _, fun _ _ _ => rfl, fun q hq => by cases hq⟩
  refine vx_ret ?_
  exact W.zret (v := i) g1 g2 B.returns rfl (fun t ht hW => ⟨rfl, hS.F ht⟩) hS.2.2 dJ3_checkIndex_8e157_17 B.notSynchronized
theorem c_J0_checkIndex_df160 {l : Launch} (hl : l.stackTraces = false) {h : PH} {a0 a1 : Int32} {r : Unit} (e : f_J0_checkIndex_df160 a0 a1 = some r) : CMet l yJ0_checkIndex_df160 (z_W yJ0_checkIndex_df160 cJ0_checkIndex_df160 2 none) rmJ0_checkIndex_df160 h [.int a0, .int a1] (.inr none) h := by
  have h12 : ¬ a0 < 0 ∧ a0 < a1 := by
    unfold f_J0_checkIndex_df160 at e
    rcases oi e with ⟨_, e⟩ | ⟨c1, e⟩
    · cases e
    · rcases oi e with ⟨c2, e⟩ | ⟨_, e⟩
      · exact ⟨c1, c2⟩
      · cases e
  refine z_met hl Y_J0_checkIndex_df160 (by decide +kernel) (Nat.le_of_ble_eq_true rfl) (fun X hX E T0 M => ?_)
  refine z_iload_n E 0 dJ0_checkIndex_df160_0 rfl ?_
  refine z_iload_n E 1 dJ0_checkIndex_df160_1 rfl ?_
  obtain ⟨⟨p, l', e', R, s, m, args, below, meth, c⟩, D, cT, A, Q, ρ0, h0⟩ := X
  intro ρ H locs ls hI a1' a2' hL
  have E' := E
  obtain ⟨g1, g2, g3, g4, g5, g6, g7, g8, g9, g10, g11, g12⟩ := E'
  obtain ⟨i1, i2, i3, i4, i5, i6, i7, i8, i9, i10⟩ := id hI
  have hz := i7.2.2.2.2.2.2.2.2.2
  have go : ∀ v : Value, (v = .null ∨ ∃ q, v = .ref q) → W p l' e' R s m args below meth c H locs 0 0 Q (F0 m 5 ls (v :: [.int a1, .int a0])) := by
    intro v hv T hT Xs
    subst g10
    have run : vx_Run p l' e' rmJ0_checkIndex_df160 s m args below meth c H locs 0 0 0 0 (F0 m 5 ls (v :: [.int a1, .int a0])) [] (z_cQ a0 ([.int a0, .int a1, v] : List Value).toArray) (fun _ _ _ => False) (fun _ => False) := vx_runS (Ts := z_ws) (own := RJ0) (As := [.int a0, .int a1, v]) (rest := []) (g := F0 m 5 ls (v :: [.int a1, .int a0])) ⟨g1, g2, g3, g4, g5⟩ (z_ci (l := l') h12.1 h12.2)
      ⟨⟨rfl, rfl, by decide, by decide, z_pay g5 Y_J3_checkIndex_8e157.1, List.mem_cons_self, g5 _ Y_J3_checkIndex_8e157.1, g5 _ Y_J3_checkIndex_8e157.2.1, Y_J3_checkIndex_8e157.2.2.1, z_np Y_J3_checkIndex_8e157.2.2.2 rfl, g5 _ k_J0_1059.1⟩, g5 _ k_J0_1059.2⟩
      ⟨fun a U g mk hq => hq, fun U hU hW => ⟨v, rfl, hv⟩⟩ rfl rfl hL.1 rfl (lv_room (by decide)) dJ0_checkIndex_df160_5 ⟨by decide, by decide⟩
    rcases run T hT Xs with ⟨v', st₀, t, T', L, e0, X', hLf, e1, e2, ⟨hv', hF⟩, stp⟩ | ⟨q, st₀, t, T', L, Ex, ce, e0, X', hLf, e1, e2, hx, hce, hcv, hcl, stp⟩
    · cases hv'
      obtain ⟨k1, k2, k3⟩ := vx_keep (A1 := fun _ => False) (free := fun _ => False) e0 e1 i3 (fun q _ (hq : False) => hq.elim) (fun q (hq : False) => hq.elim) hLf hF
      have hI' : z_In ((p, l', e', rmJ0_checkIndex_df160, s, m, args, below, meth, c), D, cT, A, Q, ρ0, h0) ρ h T'.heap (locs ++ L) := ⟨va_P.kept i1 (fun j x hx => k2 x.1 (i1 j x hx).lt (fun z => z)), i2, k3, i4, i5, i6, i7, i8, i9, i10⟩
      have fin : WP ((p, l', e', rmJ0_checkIndex_df160, s, m, args, below, meth, c), D, cT, A, Q, ρ0, h0) 2 0 0 8 [(0, .int a0), (1, .int a1)] [.int a0] h := by
        refine z_pop E dJ0_checkIndex_df160_8 rfl ?_
        exact z_vret E M dJ0_checkIndex_df160_9 rfl rfl rfl (by decide) (by decide)
      obtain ⟨t2, c1, c2⟩ := fin ρ T'.heap (locs ++ L) ls hI' a1' (fun w hw => by rcases List.mem_cons.mp hw with rfl | hw; exact trivial; cases hw) hL T' rfl X'
      exact ⟨t2, stp t2 c1, c2⟩
    · exact hx.elim
  rcases hz.1 with hq | ⟨q, hq⟩
  · exact va_gets (v := .null) g1 g2 hq i3 g4 (g5 _ gs_J0_1053) (fun _ q => q) dJ0_checkIndex_df160_2 (go .null (Or.inl rfl))
  · exact va_gets (v := .ref q) g1 g2 hq i3 g4 (g5 _ gs_J0_1053) (fun _ q => q) dJ0_checkIndex_df160_2 (go (.ref q) (Or.inr ⟨q, rfl⟩))
