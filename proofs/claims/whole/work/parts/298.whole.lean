section BEGIN
theorem dfl_X9 : ∀ j, j < 9 → defaultValue (tyX9 j) = vp_V F9 j := by
  intro j hj
  match j, hj with
  | 0, _ => rfl
  | 1, _ => rfl
  | 2, _ => rfl
  | 3, _ => rfl
  | 4, _ => rfl
  | 5, _ => rfl
  | 6, _ => rfl
  | 7, _ => rfl
  | 8, _ => rfl
  | j + 9, hj => exact absurd hj (by omega)
theorem dfl_X10 : ∀ j, j < 20 → defaultValue (tyX10 j) = vp_V F20 j := by
  intro j hj
  match j, hj with
  | 0, _ => rfl
  | 1, _ => rfl
  | 2, _ => rfl
  | 3, _ => rfl
  | 4, _ => rfl
  | 5, _ => rfl
  | 6, _ => rfl
  | 7, _ => rfl
  | 8, _ => rfl
  | 9, _ => rfl
  | 10, _ => rfl
  | 11, _ => rfl
  | 12, _ => rfl
  | 13, _ => rfl
  | 14, _ => rfl
  | 15, _ => rfl
  | 16, _ => rfl
  | 17, _ => rfl
  | 18, _ => rfl
  | 19, _ => rfl
  | j + 20, hj => exact absurd hj (by omega)
theorem nw_L_8 : z_New RL 8 11 F9 := ⟨RX9, TX9, 9, tyX9, rfl, uw_X9, tyX9_ok, (z_in 106 (by decide +kernel) rfl), (z_in 107 (by decide +kernel) rfl), (z_in 72 (by decide +kernel) rfl), dfl_X9, by decide, z_dfl _ (by decide)⟩
theorem nw_L_152 : z_New RL 152 12 F20 := ⟨RX10, TX10, 20, tyX10, rfl, uw_X10, tyX10_ok, (z_in 1673 (by decide +kernel) rfl), (z_in 1674 (by decide +kernel) rfl), (z_in 85 (by decide +kernel) rfl), dfl_X10, by decide, z_dfl _ (by decide)⟩
theorem k_L_151 : Cond.methodLink RL 151 yX9_init ∈ z_ws ∧ yX9_init.name = "<init>" ∧ Cond.instanceMethod yX9_init ∈ z_ws := ⟨(z_in 108 (by decide +kernel) rfl), rfl, (z_in 109 (by decide +kernel) rfl)⟩
theorem k_L_154 : Cond.methodLink RL 154 yX10_init ∈ z_ws ∧ yX10_init.name = "<init>" ∧ Cond.instanceMethod yX10_init ∈ z_ws := ⟨(z_in 1675 (by decide +kernel) rfl), rfl, (z_in 1676 (by decide +kernel) rfl)⟩
theorem uw_Jx00060 : ∀ w ∈ u_ws RJx00060 TJx00060 6, w ∈ z_ws := by decide +kernel
theorem uw_Jx7c733 : ∀ w ∈ u_ws RJx7c733 TJx7c733 6, w ∈ z_ws := by decide +kernel
/-- from the entry to the loop, and through it -/
theorem law_begin {X : PX} (E : z_E X cL_law RL "law" 9 room_1 (some .boolean)) {L : Nat} {xs : Nat → Int32} (hL : L ≤ 2048) (kk : ∀ i h, WP X 9 603072 7178346 2821 [(0, .ref 0), (1, .ref 86), (2, .ref 131), (3, .ref 139), (4, .ref 140), (5, .int (w i))] [] h) : WP X 9 0 0 0 [(0, .ref 0)] [] (86, qC L xs) := by
  obtain ⟨h1, h2, h3, h4, e1, l1, e2, l2, e3, l3, e4, l4, V⟩ := start_inv (h := (86, qC L xs)) rfl
  refine z_nwO E nw_L_8 dL_law_0 (by decide) (by decide) ?_
  refine z_dup E dL_law_3 rfl ?_
  refine z_kV2 (st := [.ref 86]) (av := [.ref 86]) E 45 838 (z_rI (st := [.ref 86]) (av := []) E Y_X9_init k_L_151 (c_X9_init (z_El E) e1) dL_law_4 rfl rfl (by decide) (by decide) (by decide) (by decide) (Nat.le_of_ble_eq_true rfl)) rfl rfl rfl ?_
  refine z_astore_n (lv2 := [(1, .ref 86), (0, .ref 0)]) E dL_law_7 (by decide) rfl ?_
  refine z_nwO E nw_L_152 dL_law_8 (by decide) (by decide) ?_
  rw [l1]
  refine z_dup E dL_law_11 rfl ?_
  refine z_kV2 (st := [.ref 131]) (av := [.ref 131]) E 53 2191 (z_rI (st := [.ref 131]) (av := []) E Y_X10_init k_L_154 (c_X10_init (z_El E) e2) dL_law_12 rfl rfl (by decide) (by decide) (by decide) (by decide) (Nat.le_of_ble_eq_true rfl)) rfl rfl rfl ?_
  refine z_astore_n (lv2 := [(2, .ref 131), (1, .ref 86), (0, .ref 0)]) E dL_law_15 (by decide) rfl ?_
  refine z_iconst E dL_law_16 ic_1 ?_
  refine z_nwL E 1 (by decide) (z_in 2192 (by decide +kernel) rfl) dL_law_17 e3 (by decide) (by decide) ?_
  rw [l2]
  refine z_astore_n (lv2 := [(3, .ref 139), (2, .ref 131), (1, .ref 86), (0, .ref 0)]) E dL_law_19 (by decide) rfl ?_
  refine z_iconst E dL_law_20 ic_1 ?_
  refine z_nwD E 1 (by decide) (z_in 2193 (by decide +kernel) rfl) dL_law_21 e4 (by decide) (by decide) ?_
  rw [l3]
  refine z_astore (lv2 := [(4, .ref 140), (3, .ref 139), (2, .ref 131), (1, .ref 86), (0, .ref 0)]) E dL_law_23 (by decide) rfl ?_
  refine z_iconst E dL_law_25 ic_0 ?_
  refine z_istore (lv2 := [(5, .int 0), (4, .ref 140), (3, .ref 139), (2, .ref 131), (1, .ref 86), (0, .ref 0)]) E dL_law_26 (by decide) rfl ?_
  refine z_sub (lv' := [(0, .ref 0), (1, .ref 86), (2, .ref 131), (3, .ref 139), (4, .ref 140), (5, .int (w 0))]) [5, 4, 3, 2, 1, 0] rfl ?_
  exact law_loop (q := qC L xs) (sc := xs) (N := L) (K := 603072) (M := 7178346) E rfl hL qC_P qC_T qC_W qC_D (Nat.le_refl 603072) (Nat.le_refl 7178346) kk 512 0 0 55 2193 h4 V (Nat.zero_le _) (Nat.lt_of_le_of_lt hL (by decide)) (by decide) (by decide) (by decide)
theorem z_selP {args : Array Value} {s : State} {C : String} {y y2 : MethodName} (hy : y.cls ≠ "java/lang/invoke/MethodHandle" ∧ y.cls ≠ "java/lang/invoke/VarHandle") (hc2 : y2.cls = y.cls) (hpriv : (Cond.privateMethod y).before args s = true) (hinst : (Cond.instanceMethod y).before args s = true) (hs2 : (Cond.selects C y2 y2).before args s = true) : (Cond.selects C y y).before args s = true := by
  obtain ⟨c, r2, m2, q1, q2, q3, q4, mk2, q5, q6⟩ := Cond.selects_spec hs2
  obtain ⟨mk, methM, hnamed, hmethM, -, -⟩ := Cond.instanceMethod_spec hinst
  have hfound : s.methodFound? y.cls y.name y.desc = some mk := State.methodFound?_of_named hnamed hy
  have hsel : selectMethod {} s.vm c mk = .method mk := selectMethod_private hmethM (Cond.privateMethod_at hpriv mk methM hnamed hmethM)
  have e1 := findClass_of_methodNamed hnamed
  have e2 := findClass_of_methodNamed q3
  rw [hc2] at e2
  have hcls : m2.cls = mk.cls := Option.some.inj (e2.symm.trans e1)
  rw [hcls] at q5
  simp only [Cond.before, Cond.holds, Cond.value, q1, hfound, hnamed, hsel, q5]
  simp; exact q6
theorem zws_ok {args : Array Value} {s : State} (hts : ∀ w ∈ lw_tbl, w.before args s = true) : ∀ w ∈ z_ws, w.before args s = true := by
  intro w hw
  have hw := (List.mem_filter.mp hw).1
  rcases List.mem_append.mp hw with hw | hw
  · have s2 : (Cond.selects "java/lang/StringBuilder" ⟨"java/lang/AbstractStringBuilder", "isLatin1", "()Z"⟩ ⟨"java/lang/AbstractStringBuilder", "isLatin1", "()Z"⟩).before args s = true := hts _ (List.mem_of_getElem? (i := 1418) (by decide +kernel))
    simp only [z_xs, List.mem_cons, List.not_mem_nil, or_false] at hw
    rcases hw with rfl | rfl
    · exact z_selP (y2 := ⟨"java/lang/AbstractStringBuilder", "isLatin1", "()Z"⟩) ⟨by decide, by decide⟩ rfl (hts _ (List.mem_of_getElem? (i := 1387) (by decide +kernel))) (hts _ (List.mem_of_getElem? (i := 1388) (by decide +kernel))) s2
    · exact z_selP (y2 := ⟨"java/lang/AbstractStringBuilder", "isLatin1", "()Z"⟩) ⟨by decide, by decide⟩ rfl (hts _ (List.mem_of_getElem? (i := 1391) (by decide +kernel))) (hts _ (List.mem_of_getElem? (i := 1392) (by decide +kernel))) s2
  · exact hts w hw
end BEGIN

/-! THE CLAIM OUT OF ONE WALK OF THE LAW'S BODY. Your part is whole_start (and what it stands on); all else here is the same for every law, but numbers. -/
def R_law : String := "FootnoteFisheryLaw"
def lw_P (b : Addr) (xs : List Int32) (args : Array Value) (s : State) : Prop := args = #[.ref b] ∧ s.IntsAt b xs ∧ xs.length ≤ 2048 ∧ (Jvm.Cond.and given_1 narrow_1).before args s = true
/-- what a walk over the start with the record d0 says of its end, said of the start itself -/
theorem lw_closed {s t : State} {o : Outcome} {d0 : Drawn} {L : List Loc} {k n : Nat} (hd0 : s.drawn.sameBut d0 lw_cs) (hv : ∃ v, o = .returned v) (hW : (s.setDrawn d0).WarmedH t.vm) (hs : (s.setDrawn d0).sameButNew ({ t with vm := s.vm } : State) L k n) : State.butDraws s t lw_cs (fun t1 => Framed s o t1 L k n) := by
  have h2 : t.drawn = d0 := congrArg State.drawn hs.1
  refine ⟨⟨hv, hW, State.sameButNew.setDrawn hs s.drawn⟩, ?_, by decide⟩
  rw [h2]
  exact hd0
def lw_Q (_ : Array Value) (s : State) (o : Outcome) (t : State) : Prop := o = .returned (some (.int 1)) ∧ State.butDraws s t lw_cs (fun t1 => Framed s o t1 [] 603072 7178346)
def lw_Z (below : List Frame) (a : Array Value) (s : State) : State → Prop := fun t => ∃ o, t.status = .running ∧ Ended t below o ∧ lw_Q a s o t
/-- the law's own end, with 1 on the stack, nothing written that was there before, its room as the claim has it; d0: the record of draws at this point (at the entry s.drawn: begin with 'refine W.base ?_' and 'have hd0 := Drawn.sameBut.refl s.drawn lw_cs') -/
theorem lw_ret {p : Program} {l : Launch} {e : Env} {s : State} {m : MethodId} {below : List Frame} {meth : Method} {c : Code} {b : Nat} {d0 : Drawn} (hd0 : s.drawn.sameBut d0 lw_cs) (hx : p.tables.exec = Jvm.exec) (hb : c.code = code) (hr : meth.sig.returnType = ret) (hlocks : meth.locks = false) {pc : Nat} {H : Heap} {ls : Array Slot} (hdg : decode code pc = .ok (.ireturn, 1)) : W p l e room_1 (s.setDrawn d0) m #[Value.ref b] below meth c H [] 603072 7178346 (lw_Z below #[Value.ref b] s) (F0 m pc ls [.int 1]) := by
  intro T hT X
  obtain ⟨fs, hret, hrun, hended, hW, hframe⟩ := X.leave (v := some (.int 1)) (hlocks := hlocks) (fun h => by rw [hr] at h; cases h)
  have hmeth' : T.vm.method? m = some meth := X.method'
  refine ⟨T.setFrames fs, ?_, .returned (some (.int 1)), hrun, hended, rfl, lw_closed hd0 ⟨_, rfl⟩ hW hframe⟩
  jvm_step X.here [X.here.top, hx, hb, hdg, hmeth', hr, ret, narrow_b1]
  (try refine ⟨rfl, ?_⟩); (try refine ⟨rfl, ?_⟩)
  first | (intro acts; rw [hret _ acts rfl rfl rfl]) | rw [hret _ _ rfl rfl rfl]
  exact Steps.refl _
/-- what holds at the law's entry: the machine, the code, the tables' words (any of lw_tbl by 'hts w (by decide +kernel)'), the script of L ints xs at the cell b, what the Statement gives of the start (any of its parts by flat_of_before) -/
def lw_At (p : Program) (s : State) (m : MethodId) (meth : Method) (c : Code) (b L : Nat) (xs : Nat → Int32) : Prop :=
  p.tables.exec = Jvm.exec ∧ c.code = code ∧ meth.sig.returnType = ret ∧ c.maxLocals = 9 ∧ s.vm.findClass R_law = some m.cls ∧ (∀ w ∈ lw_tbl, w.before #[Value.ref b] s = true) ∧ va_X b L xs s s.heap ∧ b < s.heap.size ∧ meth.locks = false ∧ (Jvm.Cond.and given_1 narrow_1).before #[Value.ref b] s = true

/-- the worlds' classes and arrays, known at the start -/
theorem start_K {args : Array Value} {s : State} (hts : ∀ w ∈ lw_tbl, w.before args s = true) : ∃ (D : va_G) (cT : FieldType → ClassId), va_K D vwCl (z_tys cT) s := by
  have hz := zws_ok hts
  obtain ⟨c0, i0, K0⟩ := u_known (C := RJ0) (T := TJ0) (N := 4) (n := 4) hz uw_J0 (hts _ (List.mem_of_getElem? (i := 1067) (by decide +kernel)))
  obtain ⟨c1, i1, K1⟩ := u_known (C := RJ4) (T := TJ4) (N := 4) (n := 4) hz uw_J4 (hts _ (List.mem_of_getElem? (i := 362) (by decide +kernel)))
  obtain ⟨c2, i2, K2⟩ := u_known (C := RJx00060) (T := TJx00060) (N := 6) (n := 6) hz uw_Jx00060 (hts _ (List.mem_of_getElem? (i := 1052) (by decide +kernel)))
  obtain ⟨c3, i3, K3⟩ := u_known (C := RJx7c733) (T := TJx7c733) (N := 6) (n := 6) hz uw_Jx7c733 (hts _ (List.mem_of_getElem? (i := 1368) (by decide +kernel)))
  obtain ⟨c4, i4, K4⟩ := u_known (C := RX0) (T := TX0) (N := 5) (n := 5) hz uw_X0 (hts _ (List.mem_of_getElem? (i := 255) (by decide +kernel)))
  obtain ⟨c5, i5, K5⟩ := u_known (C := RX2) (T := TX2) (N := 3) (n := 3) hz uw_X2 (hts _ (List.mem_of_getElem? (i := 343) (by decide +kernel)))
  obtain ⟨c6, i6, K6⟩ := u_known (C := RX3) (T := TX3) (N := 4) (n := 4) hz uw_X3 (hts _ (List.mem_of_getElem? (i := 261) (by decide +kernel)))
  obtain ⟨c7, i7, K7⟩ := u_known (C := RX4) (T := TX4) (N := 3) (n := 3) hz uw_X4 (hts _ (List.mem_of_getElem? (i := 223) (by decide +kernel)))
  obtain ⟨c8, i8, K8⟩ := u_known (C := RX6) (T := TX6) (N := 2) (n := 2) hz uw_X6 (hts _ (List.mem_of_getElem? (i := 242) (by decide +kernel)))
  obtain ⟨c9, i9, K9⟩ := u_known (C := RX7) (T := TX7) (N := 17) (n := 17) hz uw_X7 (hts _ (List.mem_of_getElem? (i := 115) (by decide +kernel)))
  obtain ⟨c10, i10, K10⟩ := u_known (C := RX8) (T := TX8) (N := 11) (n := 11) hz uw_X8 (hts _ (List.mem_of_getElem? (i := 296) (by decide +kernel)))
  obtain ⟨c11, i11, K11⟩ := u_known (C := RX9) (T := TX9) (N := 9) (n := 9) hz uw_X9 (hts _ (List.mem_of_getElem? (i := 107) (by decide +kernel)))
  obtain ⟨c12, i12, K12⟩ := u_known (C := RX10) (T := TX10) (N := 20) (n := 20) hz uw_X10 (hts _ (List.mem_of_getElem? (i := 1674) (by decide +kernel)))
  obtain ⟨ci, ai, fi⟩ := arr_of (ty := .int) (hts _ (List.mem_of_getElem? (i := 220) (by decide +kernel)))
  obtain ⟨cc, ac, fc⟩ := arr_of (ty := .char) (hts _ (List.mem_of_getElem? (i := 221) (by decide +kernel)))
  obtain ⟨cb, ab, fb⟩ := arr_of (ty := .byte) (hts _ (List.mem_of_getElem? (i := 393) (by decide +kernel)))
  obtain ⟨cl, al, fl⟩ := arr_of (ty := .long) (hts _ (List.mem_of_getElem? (i := 2192) (by decide +kernel)))
  obtain ⟨cd, ad, fd⟩ := arr_of (ty := .double) (hts _ (List.mem_of_getElem? (i := 2193) (by decide +kernel)))
  obtain ⟨co, ao, fo⟩ := arrO_of (C := "FootnoteFishery$State") (hts _ (List.mem_of_getElem? (i := 229) (by decide +kernel)))
  refine ⟨(fun k => [c0, c1, c2, c3, c4, c5, c6, c7, c8, c9, c10, c11, c12].getD k c0, fun k => [i0, i1, i2, i3, i4, i5, i6, i7, i8, i9, i10, i11, i12].getD k i0), fun t => match t with | .int => ci | .char => cc | .byte => cb | .long => cl | .double => cd | _ => co, fun k q hq => ?_, fun k q hk => ?_⟩
  · match k, hq with
    | 0, hq => cases hq; exact K0
    | 1, hq => cases hq; exact K1
    | 2, hq => cases hq; exact K2
    | 3, hq => cases hq; exact K3
    | 4, hq => cases hq; exact K4
    | 5, hq => cases hq; exact K5
    | 6, hq => cases hq; exact K6
    | 7, hq => cases hq; exact K7
    | 8, hq => cases hq; exact K8
    | 9, hq => cases hq; exact K9
    | 10, hq => cases hq; exact K10
    | 11, hq => cases hq; exact K11
    | 12, hq => cases hq; exact K12
    | k + 13, hq => exact absurd (show k + 13 < 13 from (List.getElem?_eq_some_iff.mp hq).1) (by omega)
  · match k, hk with
    | 0, hk => cases hk; exact ⟨ai, fi⟩
    | 1, hk => cases hk; exact ⟨ac, fc⟩
    | 2, hk => cases hk; exact ⟨ab, fb⟩
    | 3, hk => cases hk; exact ⟨al, fl⟩
    | 4, hk => cases hk; exact ⟨ad, fd⟩
    | 5, hk => cases hk; exact ⟨ao, fo⟩
    | k + 6, hk => exact absurd (show k + 6 < 6 from (List.getElem?_eq_some_iff.mp hk).1) (by omega)
/-- THE LAW, from its entry -/
theorem whole_start {p : Program} {e : Env} {s : State} {m : MethodId} {below : List Frame} {meth : Method} {c : Code} (l : Launch) (hflags : l.flags = flags0) {b L : Nat} {xs : Nat → Int32} (hL : L ≤ 2048) (C0 : lw_At p s m meth c b L xs) (hnm : meth.name = "law") : W p l e room_1 s m #[Value.ref b] below meth c s.heap [] 0 0 (lw_Z below #[Value.ref b] s) (entryFrame m ([Value.ref b] : List Value).toArray 9) := by
  obtain ⟨hx, hb, hr, hml, hown, hts, hX, hbl, hlocks, hgv⟩ := C0
  have hst : l.stackTraces = false := by
    unfold Launch.stackTraces
    rw [hflags]
    decide +kernel
  have hN : ∀ a : Nat, a < s.heap.size → ¬ (fun q : Nat => s.heap.size ≤ q) a := fun a h => Nat.not_le.mpr h
  have hF : ∀ w ∈ kF, w.before #[Value.ref b] s = true := flat_of_before _ hgv
  obtain ⟨r0, hr0, hkC, hG⟩ := start_facts (A := fun q => s.heap.size ≤ q) hts hF hX hL hbl hN
  obtain ⟨D, cT, hK⟩ := start_K hts
  have E : z_E ((p, l, e, room_1, s, m, #[Value.ref b], below, meth, c), D, cT, (fun q : Nat => s.heap.size ≤ q), lw_Z below #[Value.ref b] s, r0, ((86, qC L xs) : PH)) cL_law RL "law" 9 room_1 (some .boolean) := ⟨hx, hb, hml, hown, zws_ok hts, hK, fun _ h => h, hst, hlocks, rfl, hr, hnm⟩
  have hw := law_begin (L := L) (xs := xs) E hL (fun i h => by
    refine z_iconst E dL_law_2821 ic_1 ?_
    intro ρ H locs ls hI a1 a2 hLs
    exact va_forget hI.2.2.1.2.2 (lw_ret (Drawn.sameBut.refl s.drawn lw_cs) hx hb hr hlocks dL_law_2822))
  have hl := lv_entry ([.ref b]) (n := 9) (Nat.le_of_ble_eq_true rfl)
  rw [lg_entry_eq]
  refine hw r0 s.heap [] _ ⟨fun k q hk => absurd (show k + 86 < 86 from (z_ws_of hk).2.1) (by omega), ⟨fun i j p q hi _ _ => absurd (show i + 86 < 86 from (z_ws_of hi).2.1) (by omega), fun k q hk => absurd (show k + 86 < 86 from (z_ws_of hk).2.1) (by omega)⟩, va_S.rf, Nat.le_refl _, qC_ok, hkC, hG, Nat.le_refl _, fun _ _ => rfl, fun _ _ => rfl⟩ (fun q hq => ?_) (fun v hv => by cases hv) ?_
  · rw [List.mem_singleton.mp hq]
    show 0 < 86
    decide
  · show lv_has _ 9 [(0, Value.ref (r0 0))]
    rw [hr0]
    exact hl
set_option maxHeartbeats 4000000 in
theorem lw_walk (l : Launch) (hflags : l.flags = flags0) (b : Addr) (xs : List Int32) : MetFree l x (headSpec (Jvm.Cond.code x code maxLocals ret :: tables_1) room_1) (lw_P b xs) (fun _ _ _ _ _ => True) lw_Q := by
  refine MetFree.of_bodyS (code := code) (maxLocals := maxLocals) (ret := ret) (by decide) ?_ ?_
  · intro args s m h hn
    obtain ⟨meth, c, h1, h2, h3, h4, h5, h6, -, -⟩ := Cond.code_spec hn (atoms_spec (ws := Jvm.Cond.code x code maxLocals ret :: tables_1) h _ List.mem_cons_self)
    exact ⟨meth, c, h1, h2, h3, h4, h5, h6⟩
  · intro p e s m args below meth c s₁ B hml0 hP _
    obtain ⟨rfl, hx, hbd, hgv⟩ := hP
    obtain ⟨scr, harrAt, hlist, hof, hsmall⟩ := hx
    obtain ⟨hcb, hkn, -, -⟩ := State.arrayAt?_spec harrAt
    have hown : s.vm.findClass R_law = some m.cls := findClass_of_methodNamed B.named
    have hts0 : ∀ c ∈ (Jvm.Cond.code x code maxLocals ret :: tables_1), c.before #[Value.ref b] s = true := atoms_spec (ws := Jvm.Cond.code x code maxLocals ret :: tables_1) B.pre
    have hts : ∀ w ∈ lw_tbl, w.before #[Value.ref b] s = true := k2_hts_sels lw_privs (fun w hw => hts0 w (List.mem_cons_of_mem _ hw)) lw_privs_ok
    have hml : c.maxLocals = 9 := B.maxLocals_eq (hts0 _ List.mem_cons_self)
    have X₀ : Stand p l e room_1 s m #[Value.ref b] below meth c s₁ [] 0 0 := Stand.of_body B
    have hh0 : s₁.heap = s.heap := by rw [B.state]; rfl
    have hsz : scr.slots.size = xs.length := by rw [← Array.length_toList, hlist, List.length_map]
    have hval : ∀ j : Nat, j < xs.length → scr.slots[j]? = some (.int (xs.getD j 0)) := fun j hj => by
      rw [← Array.getElem?_toList, hlist]
      simp [hj]
    have hbl : b < s.heap.size := (Array.getElem?_eq_some_iff.mp hcb).1
    have hX : va_X b xs.length (fun j => xs.getD j 0) s s.heap := ⟨scr, hcb, hof, hkn, hsz, hval⟩
    have K : W p l e room_1 s m #[Value.ref b] below meth c s₁.heap [] 0 0 (lw_Z below #[Value.ref b] s) (entryFrame m ([Value.ref b] : List Value).toArray 9) := by
      rw [hh0]
      exact whole_start l hflags hbd ⟨B.exec, B.bytes, B.returns, hml, hown, hts, hX, hbl, B.notSynchronized, hgv⟩ (name_of_methodNamed B.named B.method).1
    obtain ⟨t, a1, o, b1, b2, b3⟩ := K s₁ rfl X₀
    exact ⟨t, o, a1, b1, b2, b3⟩
theorem lw_pre_spec {args : Array Value} {s : State} (h : (Jvm.Cond.and given_1 narrow_1).before args s = true) (hr : rest_1_c.before args s = true) : ∃ (b : Addr) (xs : List Int32), lw_P b xs args s := by
  have hs := flat_of_before _ h
  have hq := flat_of_before _ hr
  have hc : (Cond.count 1).before args s = true := hs _ (by decide +kernel)
  have harr : (Cond.arrayOf (.arg 0) .int).before args s = true := hs _ (by decide +kernel)
  have hle : (Cond.le (.length (.arg 0)) (.int 2048)).before args s = true := hs _ (by decide +kernel)
  have hlen : (Cond.isInt (.length (.arg 0))).before args s = true := hq _ (by decide +kernel)
  have hall : (Cond.all (.arg 0) (.isInt (.elem (.arg 0) (.index 0)))).before args s = true := hq _ (by decide +kernel)
  obtain ⟨b, xs, hb, hx⟩ := State.ints_of_pre rfl harr hlen hall
  have hsm : xs.length < 2 ^ 31 := hx.choose_spec.2.2.2
  have hev : (Term.length (.arg 0)).eval args s none [] s = some (.int xs.length.toInt32) := hx.length_eval hb
  have hv := Cond.le_ints hev (show (Term.int 2048).eval args s none [] s = some (.int 2048) from rfl)
  have hd : xs.length.toInt32 ≤ 2048 := by
    simpa [Cond.before, Cond.holds, hv] using hle
  have hN : xs.length ≤ 2048 := (Int32.ofNat_le_ofNat hsm (by decide)).mp (show Int32.ofNat xs.length ≤ Int32.ofNat 2048 from hd)
  exact ⟨b, xs, Cond.one_arg hc (show args[0]? = some (.ref b) from hb), hx, hN, h⟩
theorem lw_comes (l : Launch) (hflags : l.flags = flags0) : Comes l x (Jvm.Cond.code x code maxLocals ret :: tables_1) room_1 (fun tb e args s => Calls_1 tb e args s ∧ rest_1 tb e args s ∧ Pre_1 tb e args s)
    (fun _ _ args s o t => lw_Q args s o t) := by
  intro p e ha hc hk s m args below hf hfit hheap happ hpre
  obtain ⟨b, xs, hP⟩ := lw_pre_spec hpre.2.2 hpre.2.1
  obtain ⟨k, o, h1, h2, h3, hQ⟩ := lw_walk l hflags b xs p e ha hc hk s m args below hf ((Spec.applies_iff_loose hf).mp happ).1 hP trivial
  exact ⟨k, o, h1, h2, h3, hQ⟩
theorem lw_frame {s t : State} {o : Outcome} {args : Array Value} (h : State.butDraws s t lw_cs (fun t1 => Framed s o t1 [] 603072 7178346)) :
    State.butDraws s t [Jvm.Choice.named "NaN.bits"] (fun t1 => Framed s o t1 (fieldLocs frame_1_writes args s ++ arrayLocs frame_1_arrays args s ++ staticLocs frame_1_statics s) 603072 7178346) := h
theorem lw_limb (L : Cond) (hL : ∀ (args : Array Value) (s t : State), L.after args s (.returned (some (.int 1))) t = true) :
    ArmFor flags0 classFile x code maxLocals ret World_1 tables_1 room_1 Calls_1 rest_1 Pre_1
      (fun tb e a s o t => postC L tb e a s o t ∧ State.butDraws s t [Jvm.Choice.named "NaN.bits"] (fun t1 => Framed s o t1 (fieldLocs frame_1_writes a s ++ arrayLocs frame_1_arrays a s ++ staticLocs frame_1_statics s) 603072 7178346)) := by
  intro l hflags _ _ p e ha hc hk s m args below hf hfit hheap happ hpre
  obtain ⟨k, o, h1, h2, h3, rfl, hF⟩ := lw_comes l hflags p e ha hc hk s m args below hf hfit hheap happ hpre
  exact ⟨k, _, h1, h2, h3, hL args s _, lw_frame hF⟩
theorem i_vc : Claimed_1_1 ∧ Claimed_1_2 := ⟨lw_limb limb_1_1 (fun args s t => by simp [limb_1_1, Cond.after, Cond.holds, Cond.value]), lw_limb limb_1_2 (fun args s t => Cond.after_iff.mpr (by
  first | (rw [show limb_1_2 = Cond.eq .result (.int 1) from rfl, Cond.eq_ints (x := 1) (y := 1) rfl rfl]; simp; done) | (simp [limb_1_2, Cond.value, Term.eval]; done)))⟩

