abbrev rmX10_pageOf : Room := { frames := 3, cells := 0, slots := 0, locals := 64 }
noncomputable def f_X10_pageOf (h : PH) (a0 : Nat) (a1 : Int32) : Option (Int32 × PH) :=
  (gd h a0 12).bind fun _ =>
  (f_X10_isNone h a0 a1).bind fun p2 =>
  if p2.1 = false then
    (gd p2.2 a0 12).bind fun _ =>
    (f_X10_of p2.2 a0 a1 (0 : Int32)).bind fun p6 =>
    some (p6, p2.2)
  else
    some ((0 : Int32), p2.2)
theorem b_X10_pageOf {X : PX} (E : z_E X cX10_pageOf RX10 "pageOf" 2 rmX10_pageOf (some .int)) (T0 : z_T0 X) {h : PH} {a0 : Nat} {a1 : Int32} {r : (Int32 × PH)} (e : f_X10_pageOf h a0 a1 = some r) (M : z_M X rmX10_pageOf.cells rmX10_pageOf.slots (.inr (some (.int r.1))) r.2) : WP X 2 0 0 0 [(0, .ref a0), (1, .int a1)] [] h := by
  unfold f_X10_pageOf at e
  refine z_aload_n E 0 dX10_pageOf_0 rfl ?_
  refine z_iload_n E 1 dX10_pageOf_1 rfl ?_
  obtain ⟨_, e1, e⟩ := ob e
  obtain ⟨p2, e3, e⟩ := ob e
  refine z_kR2 (st := []) (av := [.ref a0, .int a1]) E 0 0 (z_rV (st := []) (av := [.int a1]) E Y_X10_isNone k_X10_107 (ci := 12) rfl (c_X10_isNone (z_El E) e3) dX10_pageOf_2 e1 rfl rfl (by decide) (by decide) (by decide) (by decide) (Nat.zero_le _)) rfl rfl rfl ?_
  rcases oi e with ⟨c4, e⟩ | ⟨c4, e⟩
  · refine z_if_eqT (tgt := 12) E dX10_pageOf_5 rfl (zb_f c4) ?_
    refine z_aload_n E 0 dX10_pageOf_12 rfl ?_
    refine z_iload_n E 1 dX10_pageOf_13 rfl ?_
    refine z_iconst E dX10_pageOf_14 ic_0 ?_
    obtain ⟨_, e5, e⟩ := ob e
    obtain ⟨p6, e7, e⟩ := ob e
    refine z_kR2 (st := []) (av := [.ref a0, .int a1, .int (0 : Int32)]) E 0 0 (z_rV (st := []) (av := [.int a1, .int (0 : Int32)]) E Y_X10_of k_X10_73 (ci := 12) rfl (c_X10_of (z_El E) e7) dX10_pageOf_15 e5 rfl rfl (by decide) (by decide) (by decide) (by decide) (Nat.zero_le _)) rfl rfl rfl ?_
    obtain rfl := Option.some.inj e
    exact z_iret E M dX10_pageOf_18 rfl rfl rfl rfl (by decide) (by decide)
  · refine z_if_eqF (tgt := 12) E dX10_pageOf_5 rfl (zb_nf c4) ?_
    refine z_iconst E dX10_pageOf_8 ic_0 ?_
    refine z_goto (tgt := 18) E dX10_pageOf_9 rfl ?_
    obtain rfl := Option.some.inj e
    exact z_iret E M dX10_pageOf_18 rfl rfl rfl rfl (by decide) (by decide)
theorem c_X10_pageOf {l : Launch} (hl : l.stackTraces = false) {h : PH} {a0 : Nat} {a1 : Int32} {r : (Int32 × PH)} (e : f_X10_pageOf h a0 a1 = some r) : CMet l yX10_pageOf (z_W yX10_pageOf cX10_pageOf 2 (some .int)) rmX10_pageOf h [.ref a0, .int a1] (.inr (some (.int r.1))) r.2 :=
  z_met hl Y_X10_pageOf (by decide +kernel) (Nat.le_of_ble_eq_true rfl) (fun X hX E T0 M => b_X10_pageOf E T0 e M)
abbrev rmX9_weightOf : Room := { frames := 7, cells := 1, slots := 6, locals := 113 }
noncomputable def f_X9_weightOf (h : PH) (a0 : Nat) (a1 : Int32) : Option (String ⊕ Int32) :=
  (gd h a0 11).bind fun _ =>
  (f_X9_needNote h a0 a1).bind fun p2 =>
  Sum.elim
    (fun E4 =>
    some (Sum.inl E4))
    (fun y6 =>
    (rdR h a0 11 0).bind fun x7 =>
    (rdR h x7 9 2).bind fun x9 =>
    (alI .int h x9 a1).bind fun x11 =>
    some (Sum.inr x11)) p2
theorem b_X9_weightOf {X : PX} (E : z_E X cX9_weightOf RX9 "weightOf" 2 rmX9_weightOf (some .int)) (T0 : z_T0 X) {h : PH} {a0 : Nat} {a1 : Int32} {r : (String ⊕ Int32)} (e : f_X9_weightOf h a0 a1 = some r) (M : z_M X rmX9_weightOf.cells rmX9_weightOf.slots (zoI r) h) : WP X 2 0 0 0 [(0, .ref a0), (1, .int a1)] [] h := by
  unfold f_X9_weightOf at e
  refine z_aload_n E 0 dX9_weightOf_0 rfl ?_
  refine z_iload_n E 1 dX9_weightOf_1 rfl ?_
  obtain ⟨_, e1, e⟩ := ob e
  obtain ⟨p2, e3, e⟩ := ob e
  rcases os e with ⟨E4, c5, e⟩ | ⟨y6, c5, e⟩
  · obtain rfl := Option.some.inj e
    refine z_kX2 (st := []) (av := [.ref a0, .int a1]) E 1 6 (z_rV (st := []) (av := [.int a1]) E Y_X9_needNote k_X9_69 (ci := 11) rfl (zc_o (c_X9_needNote (z_El E) e3) (by rw [c5]; rfl)) dX9_weightOf_2 e1 rfl rfl (by decide) (by decide) (by decide) (by decide) (Nat.zero_le _)) rfl rfl rfl ?_
    exact z_outX E T0 M rfl rfl (by decide) (by decide)
  · refine z_kV2 (st := []) (av := [.ref a0, .int a1]) E 1 6 (z_rV (st := []) (av := [.int a1]) E Y_X9_needNote k_X9_69 (ci := 11) rfl (zc_o (c_X9_needNote (z_El E) e3) (by rw [c5]; rfl)) dX9_weightOf_2 e1 rfl rfl (by decide) (by decide) (by decide) (by decide) (Nat.zero_le _)) rfl rfl rfl ?_
    refine z_aload_n E 0 dX9_weightOf_5 rfl ?_
    obtain ⟨x7, e8, e⟩ := ob e
    refine z_getR E fl_X9_12 dX9_weightOf_6 e8 ?_
    obtain ⟨x9, e10, e⟩ := ob e
    refine z_getR E fl_X9_77 dX9_weightOf_9 e10 ?_
    refine z_iload_n E 1 dX9_weightOf_12 rfl ?_
    obtain ⟨x11, e12, e⟩ := ob e
    refine z_iald E dX9_weightOf_13 e12 ?_
    obtain rfl := Option.some.inj e
    exact z_iret E M dX9_weightOf_14 rfl rfl rfl rfl (by decide) (by decide)
theorem c_X9_weightOf {l : Launch} (hl : l.stackTraces = false) {h : PH} {a0 : Nat} {a1 : Int32} {r : (String ⊕ Int32)} (e : f_X9_weightOf h a0 a1 = some r) : CMet l yX9_weightOf (z_W yX9_weightOf cX9_weightOf 2 (some .int)) rmX9_weightOf h [.ref a0, .int a1] (zoI r) h :=
  z_met hl Y_X9_weightOf (by decide +kernel) (Nat.le_of_ble_eq_true rfl) (fun X hX E T0 M => b_X9_weightOf E T0 e M)
abbrev rmL_weightOf : Room := { frames := 8, cells := 1, slots := 6, locals := 134 }
noncomputable def f_L_weightOf (h : PH) (a0 : Nat) (a1 : Int32) (a2 : Nat) : Option (Int32 × PH) :=
  (gd h a0 11).bind fun _ =>
  (f_X9_weightOf h a0 a1).bind fun p2 =>
  Sum.elim
    (fun E4 =>
    if E4 = "java/util/NoSuchElementException" then
      some ((1 : Int32), h)
    else none)
    (fun y6 =>
    (asL h a2 (0 : Int32) y6.toInt64).bind fun h8 =>
    some ((0 : Int32), h8)) p2
theorem b_L_weightOf {X : PX} (E : z_E X cL_weightOf RL "weightOf" 4 rmL_weightOf (some .int)) (TT : z_TT X [(0, 9, 12, 20)]) {h : PH} {a0 : Nat} {a1 : Int32} {a2 : Nat} {r : (Int32 × PH)} (e : f_L_weightOf h a0 a1 a2 = some r) (M : z_M X rmL_weightOf.cells rmL_weightOf.slots (.inr (some (.int r.1))) r.2) : WP X 4 0 0 0 [(0, .ref a0), (1, .int a1), (2, .ref a2)] [] h := by
  unfold f_L_weightOf at e
  refine z_aload_n E 2 dL_weightOf_0 rfl ?_
  refine z_iconst E dL_weightOf_1 ic_0 ?_
  refine z_aload_n E 0 dL_weightOf_2 rfl ?_
  refine z_iload_n E 1 dL_weightOf_3 rfl ?_
  obtain ⟨_, e1, e⟩ := ob e
  obtain ⟨p2, e3, e⟩ := ob e
  rcases os e with ⟨E4, c5, e⟩ | ⟨y6, c5, e⟩
  · rcases oi e with ⟨c7, e⟩ | ⟨c7, e⟩
    · subst c7
      refine z_kX2 (st := [.int (0 : Int32), .ref a2]) (av := [.ref a0, .int a1]) E 1 6 (z_rV (st := [.int (0 : Int32), .ref a2]) (av := [.int a1]) E Y_X9_weightOf k_L_29 (ci := 11) rfl (zc_o (c_X9_weightOf (z_El E) e3) (by rw [c5]; rfl)) dL_weightOf_4 e1 rfl rfl (by decide) (by decide) (by decide) (by decide) (Nat.le_of_ble_eq_true rfl)) rfl rfl rfl ?_
      refine z_catch (lv2 := [(0, .ref a0), (1, .int a1), (2, .ref a2)]) E TT 0 (q := (0, 9, 12, 20)) rfl rfl (by decide) cl_L_20 kb_NoSuchElementException (fun z hz => nomatch hz) (Or.inl ⟨_, dL_weightOf_12, rfl, rfl⟩) (by decide) rfl ?_
      refine z_iconst E dL_weightOf_13 ic_1 ?_
      obtain rfl := Option.some.inj e
      exact z_iret E M dL_weightOf_14 rfl rfl rfl rfl (by decide) (by decide)
    cases e
  · refine z_kR2 (st := [.int (0 : Int32), .ref a2]) (av := [.ref a0, .int a1]) E 1 6 (z_rV (st := [.int (0 : Int32), .ref a2]) (av := [.int a1]) E Y_X9_weightOf k_L_29 (ci := 11) rfl (zc_o (c_X9_weightOf (z_El E) e3) (by rw [c5]; rfl)) dL_weightOf_4 e1 rfl rfl (by decide) (by decide) (by decide) (by decide) (Nat.le_of_ble_eq_true rfl)) rfl rfl rfl ?_
    refine z_i2l (v := y6.toInt64) E dL_weightOf_7 rfl ?_
    obtain ⟨h8, e9, e⟩ := ob e
    refine z_last E dL_weightOf_8 e9 ?_
    refine z_goto (tgt := 15) E dL_weightOf_9 rfl ?_
    refine z_iconst E dL_weightOf_15 ic_0 ?_
    obtain rfl := Option.some.inj e
    exact z_iret E M dL_weightOf_16 rfl rfl rfl rfl (by decide) (by decide)
theorem c_L_weightOf {l : Launch} (hl : l.stackTraces = false) {h : PH} {a0 : Nat} {a1 : Int32} {a2 : Nat} {r : (Int32 × PH)} (e : f_L_weightOf h a0 a1 a2 = some r) : CMet l yL_weightOf (z_WH yL_weightOf cL_weightOf 4 (some .int) [(0, 9, 12, 20)]) rmL_weightOf h [.ref a0, .int a1, .ref a2] (.inr (some (.int r.1))) r.2 :=
  z_metH hl Y_L_weightOf (by decide +kernel) (Nat.le_of_ble_eq_true rfl) (fun X hX E T0 M => b_L_weightOf E T0 e M)
abbrev rmX10_weightOf : Room := { frames := 3, cells := 0, slots := 0, locals := 64 }
noncomputable def f_X10_weightOf (h : PH) (a0 : Nat) (a1 : Int32) : Option (Int32 × PH) :=
  (gd h a0 12).bind fun _ =>
  (f_X10_isNone h a0 a1).bind fun p2 =>
  if p2.1 = false then
    (gd p2.2 a0 12).bind fun _ =>
    (f_X10_of p2.2 a0 a1 (1 : Int32)).bind fun p6 =>
    some (p6, p2.2)
  else
    some ((0 : Int32), p2.2)
theorem b_X10_weightOf {X : PX} (E : z_E X cX10_weightOf RX10 "weightOf" 2 rmX10_weightOf (some .int)) (T0 : z_T0 X) {h : PH} {a0 : Nat} {a1 : Int32} {r : (Int32 × PH)} (e : f_X10_weightOf h a0 a1 = some r) (M : z_M X rmX10_weightOf.cells rmX10_weightOf.slots (.inr (some (.int r.1))) r.2) : WP X 2 0 0 0 [(0, .ref a0), (1, .int a1)] [] h := by
  unfold f_X10_weightOf at e
  refine z_aload_n E 0 dX10_weightOf_0 rfl ?_
  refine z_iload_n E 1 dX10_weightOf_1 rfl ?_
  obtain ⟨_, e1, e⟩ := ob e
  obtain ⟨p2, e3, e⟩ := ob e
  refine z_kR2 (st := []) (av := [.ref a0, .int a1]) E 0 0 (z_rV (st := []) (av := [.int a1]) E Y_X10_isNone k_X10_107 (ci := 12) rfl (c_X10_isNone (z_El E) e3) dX10_weightOf_2 e1 rfl rfl (by decide) (by decide) (by decide) (by decide) (Nat.zero_le _)) rfl rfl rfl ?_
  rcases oi e with ⟨c4, e⟩ | ⟨c4, e⟩
  · refine z_if_eqT (tgt := 12) E dX10_weightOf_5 rfl (zb_f c4) ?_
    refine z_aload_n E 0 dX10_weightOf_12 rfl ?_
    refine z_iload_n E 1 dX10_weightOf_13 rfl ?_
    refine z_iconst E dX10_weightOf_14 ic_1 ?_
    obtain ⟨_, e5, e⟩ := ob e
    obtain ⟨p6, e7, e⟩ := ob e
    refine z_kR2 (st := []) (av := [.ref a0, .int a1, .int (1 : Int32)]) E 0 0 (z_rV (st := []) (av := [.int a1, .int (1 : Int32)]) E Y_X10_of k_X10_73 (ci := 12) rfl (c_X10_of (z_El E) e7) dX10_weightOf_15 e5 rfl rfl (by decide) (by decide) (by decide) (by decide) (Nat.zero_le _)) rfl rfl rfl ?_
    obtain rfl := Option.some.inj e
    exact z_iret E M dX10_weightOf_18 rfl rfl rfl rfl (by decide) (by decide)
  · refine z_if_eqF (tgt := 12) E dX10_weightOf_5 rfl (zb_nf c4) ?_
    refine z_iconst E dX10_weightOf_8 ic_0 ?_
    refine z_goto (tgt := 18) E dX10_weightOf_9 rfl ?_
    obtain rfl := Option.some.inj e
    exact z_iret E M dX10_weightOf_18 rfl rfl rfl rfl (by decide) (by decide)
theorem c_X10_weightOf {l : Launch} (hl : l.stackTraces = false) {h : PH} {a0 : Nat} {a1 : Int32} {r : (Int32 × PH)} (e : f_X10_weightOf h a0 a1 = some r) : CMet l yX10_weightOf (z_W yX10_weightOf cX10_weightOf 2 (some .int)) rmX10_weightOf h [.ref a0, .int a1] (.inr (some (.int r.1))) r.2 :=
  z_met hl Y_X10_weightOf (by decide +kernel) (Nat.le_of_ble_eq_true rfl) (fun X hX E T0 M => b_X10_weightOf E T0 e M)
abbrev rmX9_stateOf : Room := { frames := 7, cells := 1, slots := 6, locals := 113 }
noncomputable def f_X9_stateOf (h : PH) (a0 : Nat) (a1 : Int32) : Option (String ⊕ Int32) :=
  (gd h a0 11).bind fun _ =>
  (f_X9_needNote h a0 a1).bind fun p2 =>
  Sum.elim
    (fun E4 =>
    some (Sum.inl E4))
    (fun y6 =>
    (rdR h a0 11 0).bind fun x7 =>
    (rdR h x7 9 3).bind fun x9 =>
    (alI .char h x9 a1).bind fun x11 =>
    (zn .char x11).bind fun x13 =>
    some (Sum.inr x13)) p2
theorem b_X9_stateOf {X : PX} (E : z_E X cX9_stateOf RX9 "stateOf" 2 rmX9_stateOf (some .char)) (T0 : z_T0 X) {h : PH} {a0 : Nat} {a1 : Int32} {r : (String ⊕ Int32)} (e : f_X9_stateOf h a0 a1 = some r) (M : z_M X rmX9_stateOf.cells rmX9_stateOf.slots (zoI r) h) : WP X 2 0 0 0 [(0, .ref a0), (1, .int a1)] [] h := by
  unfold f_X9_stateOf at e
  refine z_aload_n E 0 dX9_stateOf_0 rfl ?_
  refine z_iload_n E 1 dX9_stateOf_1 rfl ?_
  obtain ⟨_, e1, e⟩ := ob e
  obtain ⟨p2, e3, e⟩ := ob e
  rcases os e with ⟨E4, c5, e⟩ | ⟨y6, c5, e⟩
  · obtain rfl := Option.some.inj e
    refine z_kX2 (st := []) (av := [.ref a0, .int a1]) E 1 6 (z_rV (st := []) (av := [.int a1]) E Y_X9_needNote k_X9_69 (ci := 11) rfl (zc_o (c_X9_needNote (z_El E) e3) (by rw [c5]; rfl)) dX9_stateOf_2 e1 rfl rfl (by decide) (by decide) (by decide) (by decide) (Nat.zero_le _)) rfl rfl rfl ?_
    exact z_outX E T0 M rfl rfl (by decide) (by decide)
  · refine z_kV2 (st := []) (av := [.ref a0, .int a1]) E 1 6 (z_rV (st := []) (av := [.int a1]) E Y_X9_needNote k_X9_69 (ci := 11) rfl (zc_o (c_X9_needNote (z_El E) e3) (by rw [c5]; rfl)) dX9_stateOf_2 e1 rfl rfl (by decide) (by decide) (by decide) (by decide) (Nat.zero_le _)) rfl rfl rfl ?_
    refine z_aload_n E 0 dX9_stateOf_5 rfl ?_
    obtain ⟨x7, e8, e⟩ := ob e
    refine z_getR E fl_X9_12 dX9_stateOf_6 e8 ?_
    obtain ⟨x9, e10, e⟩ := ob e
    refine z_getR E fl_X9_80 dX9_stateOf_9 e10 ?_
    refine z_iload_n E 1 dX9_stateOf_12 rfl ?_
    obtain ⟨x11, e12, e⟩ := ob e
    refine z_cald E dX9_stateOf_13 e12 ?_
    obtain ⟨x13, e14, e⟩ := ob e
    obtain ⟨x13a, x13b, -⟩ := z_zn e14
    obtain rfl := Option.some.inj e
    exact z_iret E M dX9_stateOf_14 rfl x13b (congrArg (fun z => Sum.inr (some (Value.int z))) x13a) rfl (by decide) (by decide)
theorem c_X9_stateOf {l : Launch} (hl : l.stackTraces = false) {h : PH} {a0 : Nat} {a1 : Int32} {r : (String ⊕ Int32)} (e : f_X9_stateOf h a0 a1 = some r) : CMet l yX9_stateOf (z_W yX9_stateOf cX9_stateOf 2 (some .char)) rmX9_stateOf h [.ref a0, .int a1] (zoI r) h :=
  z_met hl Y_X9_stateOf (by decide +kernel) (Nat.le_of_ble_eq_true rfl) (fun X hX E T0 M => b_X9_stateOf E T0 e M)
abbrev rmL_stateOf : Room := { frames := 8, cells := 1, slots := 6, locals := 134 }
noncomputable def f_L_stateOf (h : PH) (a0 : Nat) (a1 : Int32) (a2 : Nat) : Option (Int32 × PH) :=
  (gd h a0 11).bind fun _ =>
  (f_X9_stateOf h a0 a1).bind fun p2 =>
  Sum.elim
    (fun E4 =>
    if E4 = "java/util/NoSuchElementException" then
      some ((1 : Int32), h)
    else none)
    (fun y6 =>
    (asL h a2 (0 : Int32) y6.toInt64).bind fun h8 =>
    some ((0 : Int32), h8)) p2
theorem b_L_stateOf {X : PX} (E : z_E X cL_stateOf RL "stateOf" 4 rmL_stateOf (some .int)) (TT : z_TT X [(0, 9, 12, 20)]) {h : PH} {a0 : Nat} {a1 : Int32} {a2 : Nat} {r : (Int32 × PH)} (e : f_L_stateOf h a0 a1 a2 = some r) (M : z_M X rmL_stateOf.cells rmL_stateOf.slots (.inr (some (.int r.1))) r.2) : WP X 4 0 0 0 [(0, .ref a0), (1, .int a1), (2, .ref a2)] [] h := by
  unfold f_L_stateOf at e
  refine z_aload_n E 2 dL_stateOf_0 rfl ?_
  refine z_iconst E dL_stateOf_1 ic_0 ?_
  refine z_aload_n E 0 dL_stateOf_2 rfl ?_
  refine z_iload_n E 1 dL_stateOf_3 rfl ?_
  obtain ⟨_, e1, e⟩ := ob e
  obtain ⟨p2, e3, e⟩ := ob e
  rcases os e with ⟨E4, c5, e⟩ | ⟨y6, c5, e⟩
  · rcases oi e with ⟨c7, e⟩ | ⟨c7, e⟩
    · subst c7
      refine z_kX2 (st := [.int (0 : Int32), .ref a2]) (av := [.ref a0, .int a1]) E 1 6 (z_rV (st := [.int (0 : Int32), .ref a2]) (av := [.int a1]) E Y_X9_stateOf k_L_32 (ci := 11) rfl (zc_o (c_X9_stateOf (z_El E) e3) (by rw [c5]; rfl)) dL_stateOf_4 e1 rfl rfl (by decide) (by decide) (by decide) (by decide) (Nat.le_of_ble_eq_true rfl)) rfl rfl rfl ?_
      refine z_catch (lv2 := [(0, .ref a0), (1, .int a1), (2, .ref a2)]) E TT 0 (q := (0, 9, 12, 20)) rfl rfl (by decide) cl_L_20 kb_NoSuchElementException (fun z hz => nomatch hz) (Or.inl ⟨_, dL_stateOf_12, rfl, rfl⟩) (by decide) rfl ?_
      refine z_iconst E dL_stateOf_13 ic_1 ?_
      obtain rfl := Option.some.inj e
      exact z_iret E M dL_stateOf_14 rfl rfl rfl rfl (by decide) (by decide)
    cases e
  · refine z_kR2 (st := [.int (0 : Int32), .ref a2]) (av := [.ref a0, .int a1]) E 1 6 (z_rV (st := [.int (0 : Int32), .ref a2]) (av := [.int a1]) E Y_X9_stateOf k_L_32 (ci := 11) rfl (zc_o (c_X9_stateOf (z_El E) e3) (by rw [c5]; rfl)) dL_stateOf_4 e1 rfl rfl (by decide) (by decide) (by decide) (by decide) (Nat.le_of_ble_eq_true rfl)) rfl rfl rfl ?_
    refine z_i2l (v := y6.toInt64) E dL_stateOf_7 rfl ?_
    obtain ⟨h8, e9, e⟩ := ob e
    refine z_last E dL_stateOf_8 e9 ?_
    refine z_goto (tgt := 15) E dL_stateOf_9 rfl ?_
    refine z_iconst E dL_stateOf_15 ic_0 ?_
    obtain rfl := Option.some.inj e
    exact z_iret E M dL_stateOf_16 rfl rfl rfl rfl (by decide) (by decide)
theorem c_L_stateOf {l : Launch} (hl : l.stackTraces = false) {h : PH} {a0 : Nat} {a1 : Int32} {a2 : Nat} {r : (Int32 × PH)} (e : f_L_stateOf h a0 a1 a2 = some r) : CMet l yL_stateOf (z_WH yL_stateOf cL_stateOf 4 (some .int) [(0, 9, 12, 20)]) rmL_stateOf h [.ref a0, .int a1, .ref a2] (.inr (some (.int r.1))) r.2 :=
  z_metH hl Y_L_stateOf (by decide +kernel) (Nat.le_of_ble_eq_true rfl) (fun X hX E T0 M => b_L_stateOf E T0 e M)
abbrev rmX10_sign : Room := { frames := 1, cells := 0, slots := 0, locals := 22 }
noncomputable def f_X10_sign (h : PH) (a0 : Nat) (a1 : Int32) : Option Int32 :=
  (gd h a0 12).bind fun _ =>
  (f_X10_of h a0 a1 (2 : Int32)).bind fun p2 =>
  if ¬ p2 = 0 then
    (gd h a0 12).bind fun _ =>
    (f_X10_of h a0 a1 (2 : Int32)).bind fun p6 =>
    if ¬ p6 = (1 : Int32) then
      some (108 : Int32)
    else
      some (104 : Int32)
  else
    some (102 : Int32)
theorem b_X10_sign {X : PX} (E : z_E X cX10_sign RX10 "sign" 2 rmX10_sign (some .char)) (T0 : z_T0 X) {h : PH} {a0 : Nat} {a1 : Int32} {r : Int32} (e : f_X10_sign h a0 a1 = some r) (M : z_M X rmX10_sign.cells rmX10_sign.slots (.inr (some (.int r))) h) : WP X 2 0 0 0 [(0, .ref a0), (1, .int a1)] [] h := by
  unfold f_X10_sign at e
  refine z_aload_n E 0 dX10_sign_0 rfl ?_
  refine z_iload_n E 1 dX10_sign_1 rfl ?_
  refine z_iconst E dX10_sign_2 ic_2 ?_
  obtain ⟨_, e1, e⟩ := ob e
  obtain ⟨p2, e3, e⟩ := ob e
  refine z_kR2 (st := []) (av := [.ref a0, .int a1, .int (2 : Int32)]) E 0 0 (z_rV (st := []) (av := [.int a1, .int (2 : Int32)]) E Y_X10_of k_X10_73 (ci := 12) rfl (c_X10_of (z_El E) e3) dX10_sign_3 e1 rfl rfl (by decide) (by decide) (by decide) (by decide) (Nat.zero_le _)) rfl rfl rfl ?_
  rcases oi e with ⟨c4, e⟩ | ⟨c4, e⟩
  · refine z_if_neT (tgt := 14) E dX10_sign_6 rfl c4 ?_
    refine z_aload_n E 0 dX10_sign_14 rfl ?_
    refine z_iload_n E 1 dX10_sign_15 rfl ?_
    refine z_iconst E dX10_sign_16 ic_2 ?_
    obtain ⟨_, e5, e⟩ := ob e
    obtain ⟨p6, e7, e⟩ := ob e
    refine z_kR2 (st := []) (av := [.ref a0, .int a1, .int (2 : Int32)]) E 0 0 (z_rV (st := []) (av := [.int a1, .int (2 : Int32)]) E Y_X10_of k_X10_73 (ci := 12) rfl (c_X10_of (z_El E) e7) dX10_sign_17 e5 rfl rfl (by decide) (by decide) (by decide) (by decide) (Nat.zero_le _)) rfl rfl rfl ?_
    refine z_iconst E dX10_sign_20 ic_1 ?_
    rcases oi e with ⟨c8, e⟩ | ⟨c8, e⟩
    · refine z_icmp_neT (tgt := 29) E dX10_sign_21 rfl c8 ?_
      refine z_bipush E dX10_sign_29 bp_108 ?_
      obtain rfl := Option.some.inj e
      exact z_iret E M dX10_sign_31 rfl rfl rfl rfl (by decide) (by decide)
    · refine z_icmp_neF (tgt := 29) E dX10_sign_21 rfl (Classical.not_not.mp c8) ?_
      refine z_bipush E dX10_sign_24 bp_104 ?_
      refine z_goto (tgt := 31) E dX10_sign_26 rfl ?_
      obtain rfl := Option.some.inj e
      exact z_iret E M dX10_sign_31 rfl rfl rfl rfl (by decide) (by decide)
  · refine z_if_neF (tgt := 14) E dX10_sign_6 rfl (Classical.not_not.mp c4) ?_
    refine z_bipush E dX10_sign_9 bp_102 ?_
    refine z_goto (tgt := 31) E dX10_sign_11 rfl ?_
    obtain rfl := Option.some.inj e
    exact z_iret E M dX10_sign_31 rfl rfl rfl rfl (by decide) (by decide)
theorem c_X10_sign {l : Launch} (hl : l.stackTraces = false) {h : PH} {a0 : Nat} {a1 : Int32} {r : Int32} (e : f_X10_sign h a0 a1 = some r) : CMet l yX10_sign (z_W yX10_sign cX10_sign 2 (some .char)) rmX10_sign h [.ref a0, .int a1] (.inr (some (.int r))) h :=
  z_met hl Y_X10_sign (by decide +kernel) (Nat.le_of_ble_eq_true rfl) (fun X hX E T0 M => b_X10_sign E T0 e M)
abbrev rmX10_stateOf : Room := { frames := 3, cells := 0, slots := 0, locals := 64 }
noncomputable def f_X10_stateOf (h : PH) (a0 : Nat) (a1 : Int32) : Option (Int32 × PH) :=
  (gd h a0 12).bind fun _ =>
  (f_X10_isNone h a0 a1).bind fun p2 =>
  if p2.1 = false then
    (gd p2.2 a0 12).bind fun _ =>
    (f_X10_sign p2.2 a0 a1).bind fun p6 =>
    (zn .char p6).bind fun x8 =>
    some (x8, p2.2)
  else
    some ((32 : Int32), p2.2)
theorem b_X10_stateOf {X : PX} (E : z_E X cX10_stateOf RX10 "stateOf" 2 rmX10_stateOf (some .char)) (T0 : z_T0 X) {h : PH} {a0 : Nat} {a1 : Int32} {r : (Int32 × PH)} (e : f_X10_stateOf h a0 a1 = some r) (M : z_M X rmX10_stateOf.cells rmX10_stateOf.slots (.inr (some (.int r.1))) r.2) : WP X 2 0 0 0 [(0, .ref a0), (1, .int a1)] [] h := by
  unfold f_X10_stateOf at e
  refine z_aload_n E 0 dX10_stateOf_0 rfl ?_
  refine z_iload_n E 1 dX10_stateOf_1 rfl ?_
  obtain ⟨_, e1, e⟩ := ob e
  obtain ⟨p2, e3, e⟩ := ob e
  refine z_kR2 (st := []) (av := [.ref a0, .int a1]) E 0 0 (z_rV (st := []) (av := [.int a1]) E Y_X10_isNone k_X10_107 (ci := 12) rfl (c_X10_isNone (z_El E) e3) dX10_stateOf_2 e1 rfl rfl (by decide) (by decide) (by decide) (by decide) (Nat.zero_le _)) rfl rfl rfl ?_
  rcases oi e with ⟨c4, e⟩ | ⟨c4, e⟩
  · refine z_if_eqT (tgt := 13) E dX10_stateOf_5 rfl (zb_f c4) ?_
    refine z_aload_n E 0 dX10_stateOf_13 rfl ?_
    refine z_iload_n E 1 dX10_stateOf_14 rfl ?_
    obtain ⟨_, e5, e⟩ := ob e
    obtain ⟨p6, e7, e⟩ := ob e
    refine z_kR2 (st := []) (av := [.ref a0, .int a1]) E 0 0 (z_rV (st := []) (av := [.int a1]) E Y_X10_sign k_X10_110 (ci := 12) rfl (c_X10_sign (z_El E) e7) dX10_stateOf_15 e5 rfl rfl (by decide) (by decide) (by decide) (by decide) (Nat.zero_le _)) rfl rfl rfl ?_
    obtain ⟨x8, e9, e⟩ := ob e
    obtain ⟨x8a, x8b, -⟩ := z_zn e9
    obtain rfl := Option.some.inj e
    exact z_iret E M dX10_stateOf_18 rfl x8b (congrArg (fun z => Sum.inr (some (Value.int z))) x8a) rfl (by decide) (by decide)
  · refine z_if_eqF (tgt := 13) E dX10_stateOf_5 rfl (zb_nf c4) ?_
    refine z_bipush E dX10_stateOf_8 bp_32 ?_
    refine z_goto (tgt := 18) E dX10_stateOf_10 rfl ?_
    obtain rfl := Option.some.inj e
    exact z_iret E M dX10_stateOf_18 rfl rfl rfl rfl (by decide) (by decide)
theorem c_X10_stateOf {l : Launch} (hl : l.stackTraces = false) {h : PH} {a0 : Nat} {a1 : Int32} {r : (Int32 × PH)} (e : f_X10_stateOf h a0 a1 = some r) : CMet l yX10_stateOf (z_W yX10_stateOf cX10_stateOf 2 (some .char)) rmX10_stateOf h [.ref a0, .int a1] (.inr (some (.int r.1))) r.2 :=
  z_met hl Y_X10_stateOf (by decide +kernel) (Nat.le_of_ble_eq_true rfl) (fun X hX E T0 M => b_X10_stateOf E T0 e M)
abbrev rmX7_countCiting : Room := { frames := 1, cells := 0, slots := 0, locals := 21 }
noncomputable def f_X7_countCiting_L4 : Nat → PH → Nat → Int32 → Int32 → Int32 → Option Int32
  | 0, _, _, _, _, _ => none
  | fu + 1, h, v0, v1, v2, v3 =>
    (rdI h v0 9 0).bind fun x1 =>
    if x1 ≤ v3 then
      some v2
    else
      (rdR h v0 9 4).bind fun x4 =>
      (alI .int h x4 v3).bind fun x6 =>
      if (f_X9_has x6 v1) = false then
        f_X7_countCiting_L4 fu h v0 v1 v2 (v3 + (1 : Int32))
      else
        f_X7_countCiting_L4 fu h v0 v1 (v2 + (1 : Int32)) (v3 + (1 : Int32))
theorem b_X7_countCiting_L4 {X : PX} (E : z_E X cX7_countCiting RX7 "countCiting" 4 rmX7_countCiting (some .int)) (T0 : z_T0 X) {k n : Nat} (hk : k + 0 ≤ rmX7_countCiting.cells) (hn : n + 0 ≤ rmX7_countCiting.slots) {s : Int32} : ∀ (fu : Nat) (h : PH) (v0 : Nat) (v1 : Int32) (v2 : Int32) (v3 : Int32) (e : f_X7_countCiting_L4 fu h v0 v1 v2 v3 = some s) (kk : WP X 4 k n 34 [(2, .int s)] [] h), WP X 4 k n 4 [(0, .ref v0), (1, .int v1), (2, .int v2), (3, .int v3)] [] h := by
  intro fu
  induction fu with
  | zero => intro h v0 v1 v2 v3 e; exact absurd (show (none : Option Int32) = some s from e) (by intro z; cases z)
  | succ fu ih =>
    intro h v0 v1 v2 v3 e kk
    unfold f_X7_countCiting_L4 at e
    refine z_iload_n E 3 dX7_countCiting_4 rfl ?_
    refine z_aload_n E 0 dX7_countCiting_5 rfl ?_
    obtain ⟨x1, e2, e⟩ := ob e
    refine z_getI E fl_X7_53 dX7_countCiting_6 e2 ?_
    rcases oi e with ⟨c3, e⟩ | ⟨c3, e⟩
    · refine z_icmp_geT (tgt := 34) E dX7_countCiting_9 rfl c3 ?_
      obtain rfl := Option.some.inj e
      exact z_sub [2] rfl kk
    · refine z_icmp_geF (tgt := 34) E dX7_countCiting_9 rfl c3 ?_
      refine z_aload_n E 0 dX7_countCiting_12 rfl ?_
      obtain ⟨x4, e5, e⟩ := ob e
      refine z_getR E fl_X7_22 dX7_countCiting_13 e5 ?_
      refine z_iload_n E 3 dX7_countCiting_16 rfl ?_
      obtain ⟨x6, e7, e⟩ := ob e
      refine z_iald E dX7_countCiting_17 e7 ?_
      refine z_iload_n E 1 dX7_countCiting_18 rfl ?_
      refine z_kR2 (st := []) (av := [.int x6, .int v1]) E k n (z_rSN (st := []) (av := [.int x6, .int v1]) E Y_X9_has k_X7_104 (c_X9_has (l := z_l X) (h := h) (z_El E) x6 v1) dX7_countCiting_19 rfl rfl (by decide) (by decide) (zk (k := k) (a := 0) hk (by decide)) (zk (k := n) (a := 0) hn (by decide)) (Nat.zero_le _)) rfl rfl rfl ?_
      rcases oi e with ⟨c8, e⟩ | ⟨c8, e⟩
      · refine z_if_eqT (tgt := 28) E dX7_countCiting_22 rfl (zb_f c8) ?_
        refine z_iinc (v := (v3 + (1 : Int32))) (lv2 := [(3, .int (v3 + (1 : Int32))), (0, .ref v0), (1, .int v1), (2, .int v2)]) E 3 dX7_countCiting_28 rfl (congrArg (v3 + ·) ic_1) (by decide) rfl ?_
        refine z_goto (tgt := 4) E dX7_countCiting_31 rfl ?_
        exact z_sub [1, 2, 3, 0] rfl (ih _ _ _ _ _ e kk)
      · refine z_if_eqF (tgt := 28) E dX7_countCiting_22 rfl (zb_nf c8) ?_
        refine z_iinc (v := (v2 + (1 : Int32))) (lv2 := [(2, .int (v2 + (1 : Int32))), (0, .ref v0), (1, .int v1), (3, .int v3)]) E 2 dX7_countCiting_25 rfl (congrArg (v2 + ·) ic_1) (by decide) rfl ?_
        refine z_iinc (v := (v3 + (1 : Int32))) (lv2 := [(3, .int (v3 + (1 : Int32))), (2, .int (v2 + (1 : Int32))), (0, .ref v0), (1, .int v1)]) E 3 dX7_countCiting_28 rfl (congrArg (v3 + ·) ic_1) (by decide) rfl ?_
        refine z_goto (tgt := 4) E dX7_countCiting_31 rfl ?_
        exact z_sub [2, 3, 1, 0] rfl (ih _ _ _ _ _ e kk)
noncomputable def f_X7_countCiting (h : PH) (a0 : Nat) (a1 : Int32) : Option Int32 :=
  (f_X7_countCiting_L4 FV h a0 a1 (0 : Int32) (0 : Int32)).bind fun s1 =>
  some s1
theorem b_X7_countCiting {X : PX} (E : z_E X cX7_countCiting RX7 "countCiting" 4 rmX7_countCiting (some .int)) (T0 : z_T0 X) {h : PH} {a0 : Nat} {a1 : Int32} {r : Int32} (e : f_X7_countCiting h a0 a1 = some r) (M : z_M X rmX7_countCiting.cells rmX7_countCiting.slots (.inr (some (.int r))) h) : WP X 4 0 0 0 [(0, .ref a0), (1, .int a1)] [] h := by
  unfold f_X7_countCiting at e
  refine z_iconst E dX7_countCiting_0 ic_0 ?_
  refine z_istore_n (lv2 := [(2, .int (0 : Int32)), (0, .ref a0), (1, .int a1)]) E dX7_countCiting_1 (by decide) rfl ?_
  refine z_iconst E dX7_countCiting_2 ic_0 ?_
  refine z_istore_n (lv2 := [(3, .int (0 : Int32)), (2, .int (0 : Int32)), (0, .ref a0), (1, .int a1)]) E dX7_countCiting_3 (by decide) rfl ?_
  obtain ⟨s1, e2, e⟩ := ob e
  refine z_sub [2, 3, 1, 0] rfl (b_X7_countCiting_L4 E T0 (by decide) (by decide) FV _ _ _ _ _ e2 ?_)
  refine z_iload_n E 0 dX7_countCiting_34 rfl ?_
  obtain rfl := Option.some.inj e
  exact z_iret E M dX7_countCiting_35 rfl rfl rfl rfl (by decide) (by decide)
theorem c_X7_countCiting {l : Launch} (hl : l.stackTraces = false) {h : PH} {a0 : Nat} {a1 : Int32} {r : Int32} (e : f_X7_countCiting h a0 a1 = some r) : CMet l yX7_countCiting (z_W yX7_countCiting cX7_countCiting 4 (some .int)) rmX7_countCiting h [.ref a0, .int a1] (.inr (some (.int r))) h :=
  z_met hl Y_X7_countCiting (by decide +kernel) (Nat.le_of_ble_eq_true rfl) (fun X hX E T0 M => b_X7_countCiting E T0 e M)
abbrev rmX9_citedBy : Room := { frames := 7, cells := 1, slots := 6, locals := 113 }
noncomputable def f_X9_citedBy (h : PH) (a0 : Nat) (a1 : Int32) : Option (String ⊕ Int32) :=
  (gd h a0 11).bind fun _ =>
  (f_X9_needNote h a0 a1).bind fun p2 =>
  Sum.elim
    (fun E4 =>
    some (Sum.inl E4))
    (fun y6 =>
    (rdR h a0 11 0).bind fun x7 =>
    (gd h x7 9).bind fun _ =>
    (f_X7_countCiting h x7 a1).bind fun p10 =>
    some (Sum.inr p10)) p2
theorem b_X9_citedBy {X : PX} (E : z_E X cX9_citedBy RX9 "citedBy" 2 rmX9_citedBy (some .int)) (T0 : z_T0 X) {h : PH} {a0 : Nat} {a1 : Int32} {r : (String ⊕ Int32)} (e : f_X9_citedBy h a0 a1 = some r) (M : z_M X rmX9_citedBy.cells rmX9_citedBy.slots (zoI r) h) : WP X 2 0 0 0 [(0, .ref a0), (1, .int a1)] [] h := by
  unfold f_X9_citedBy at e
  refine z_aload_n E 0 dX9_citedBy_0 rfl ?_
  refine z_iload_n E 1 dX9_citedBy_1 rfl ?_
  obtain ⟨_, e1, e⟩ := ob e
  obtain ⟨p2, e3, e⟩ := ob e
  rcases os e with ⟨E4, c5, e⟩ | ⟨y6, c5, e⟩
  · obtain rfl := Option.some.inj e
    refine z_kX2 (st := []) (av := [.ref a0, .int a1]) E 1 6 (z_rV (st := []) (av := [.int a1]) E Y_X9_needNote k_X9_69 (ci := 11) rfl (zc_o (c_X9_needNote (z_El E) e3) (by rw [c5]; rfl)) dX9_citedBy_2 e1 rfl rfl (by decide) (by decide) (by decide) (by decide) (Nat.zero_le _)) rfl rfl rfl ?_
    exact z_outX E T0 M rfl rfl (by decide) (by decide)
  · refine z_kV2 (st := []) (av := [.ref a0, .int a1]) E 1 6 (z_rV (st := []) (av := [.int a1]) E Y_X9_needNote k_X9_69 (ci := 11) rfl (zc_o (c_X9_needNote (z_El E) e3) (by rw [c5]; rfl)) dX9_citedBy_2 e1 rfl rfl (by decide) (by decide) (by decide) (by decide) (Nat.zero_le _)) rfl rfl rfl ?_
    refine z_aload_n E 0 dX9_citedBy_5 rfl ?_
    obtain ⟨x7, e8, e⟩ := ob e
    refine z_getR E fl_X9_12 dX9_citedBy_6 e8 ?_
    refine z_iload_n E 1 dX9_citedBy_9 rfl ?_
    obtain ⟨_, e9, e⟩ := ob e
    obtain ⟨p10, e11, e⟩ := ob e
    refine z_kR2 (st := []) (av := [.ref x7, .int a1]) E 1 6 (z_rV (st := []) (av := [.int a1]) E Y_X7_countCiting k_X9_84 (ci := 9) rfl (c_X7_countCiting (z_El E) e11) dX9_citedBy_10 e9 rfl rfl (by decide) (by decide) (by decide) (by decide) (Nat.zero_le _)) rfl rfl rfl ?_
    obtain rfl := Option.some.inj e
    exact z_iret E M dX9_citedBy_13 rfl rfl rfl rfl (by decide) (by decide)
theorem c_X9_citedBy {l : Launch} (hl : l.stackTraces = false) {h : PH} {a0 : Nat} {a1 : Int32} {r : (String ⊕ Int32)} (e : f_X9_citedBy h a0 a1 = some r) : CMet l yX9_citedBy (z_W yX9_citedBy cX9_citedBy 2 (some .int)) rmX9_citedBy h [.ref a0, .int a1] (zoI r) h :=
  z_met hl Y_X9_citedBy (by decide +kernel) (Nat.le_of_ble_eq_true rfl) (fun X hX E T0 M => b_X9_citedBy E T0 e M)
abbrev rmL_citedBy : Room := { frames := 8, cells := 1, slots := 6, locals := 134 }
noncomputable def f_L_citedBy (h : PH) (a0 : Nat) (a1 : Int32) (a2 : Nat) : Option (Int32 × PH) :=
  (gd h a0 11).bind fun _ =>
  (f_X9_citedBy h a0 a1).bind fun p2 =>
  Sum.elim
    (fun E4 =>
    if E4 = "java/util/NoSuchElementException" then
      some ((1 : Int32), h)
    else none)
    (fun y6 =>
    (asL h a2 (0 : Int32) y6.toInt64).bind fun h8 =>
    some ((0 : Int32), h8)) p2
theorem b_L_citedBy {X : PX} (E : z_E X cL_citedBy RL "citedBy" 4 rmL_citedBy (some .int)) (TT : z_TT X [(0, 9, 12, 20)]) {h : PH} {a0 : Nat} {a1 : Int32} {a2 : Nat} {r : (Int32 × PH)} (e : f_L_citedBy h a0 a1 a2 = some r) (M : z_M X rmL_citedBy.cells rmL_citedBy.slots (.inr (some (.int r.1))) r.2) : WP X 4 0 0 0 [(0, .ref a0), (1, .int a1), (2, .ref a2)] [] h := by
  unfold f_L_citedBy at e
  refine z_aload_n E 2 dL_citedBy_0 rfl ?_
  refine z_iconst E dL_citedBy_1 ic_0 ?_
  refine z_aload_n E 0 dL_citedBy_2 rfl ?_
  refine z_iload_n E 1 dL_citedBy_3 rfl ?_
  obtain ⟨_, e1, e⟩ := ob e
  obtain ⟨p2, e3, e⟩ := ob e
  rcases os e with ⟨E4, c5, e⟩ | ⟨y6, c5, e⟩
  · rcases oi e with ⟨c7, e⟩ | ⟨c7, e⟩
    · subst c7
      refine z_kX2 (st := [.int (0 : Int32), .ref a2]) (av := [.ref a0, .int a1]) E 1 6 (z_rV (st := [.int (0 : Int32), .ref a2]) (av := [.int a1]) E Y_X9_citedBy k_L_36 (ci := 11) rfl (zc_o (c_X9_citedBy (z_El E) e3) (by rw [c5]; rfl)) dL_citedBy_4 e1 rfl rfl (by decide) (by decide) (by decide) (by decide) (Nat.le_of_ble_eq_true rfl)) rfl rfl rfl ?_
      refine z_catch (lv2 := [(0, .ref a0), (1, .int a1), (2, .ref a2)]) E TT 0 (q := (0, 9, 12, 20)) rfl rfl (by decide) cl_L_20 kb_NoSuchElementException (fun z hz => nomatch hz) (Or.inl ⟨_, dL_citedBy_12, rfl, rfl⟩) (by decide) rfl ?_
      refine z_iconst E dL_citedBy_13 ic_1 ?_
      obtain rfl := Option.some.inj e
      exact z_iret E M dL_citedBy_14 rfl rfl rfl rfl (by decide) (by decide)
    cases e
  · refine z_kR2 (st := [.int (0 : Int32), .ref a2]) (av := [.ref a0, .int a1]) E 1 6 (z_rV (st := [.int (0 : Int32), .ref a2]) (av := [.int a1]) E Y_X9_citedBy k_L_36 (ci := 11) rfl (zc_o (c_X9_citedBy (z_El E) e3) (by rw [c5]; rfl)) dL_citedBy_4 e1 rfl rfl (by decide) (by decide) (by decide) (by decide) (Nat.le_of_ble_eq_true rfl)) rfl rfl rfl ?_
    refine z_i2l (v := y6.toInt64) E dL_citedBy_7 rfl ?_
    obtain ⟨h8, e9, e⟩ := ob e
    refine z_last E dL_citedBy_8 e9 ?_
    refine z_goto (tgt := 15) E dL_citedBy_9 rfl ?_
    refine z_iconst E dL_citedBy_15 ic_0 ?_
    obtain rfl := Option.some.inj e
    exact z_iret E M dL_citedBy_16 rfl rfl rfl rfl (by decide) (by decide)
theorem c_L_citedBy {l : Launch} (hl : l.stackTraces = false) {h : PH} {a0 : Nat} {a1 : Int32} {a2 : Nat} {r : (Int32 × PH)} (e : f_L_citedBy h a0 a1 a2 = some r) : CMet l yL_citedBy (z_WH yL_citedBy cL_citedBy 4 (some .int) [(0, 9, 12, 20)]) rmL_citedBy h [.ref a0, .int a1, .ref a2] (.inr (some (.int r.1))) r.2 :=
  z_metH hl Y_L_citedBy (by decide +kernel) (Nat.le_of_ble_eq_true rfl) (fun X hX E T0 M => b_L_citedBy E T0 e M)
abbrev rmX10_cited : Room := { frames := 1, cells := 0, slots := 0, locals := 22 }
noncomputable def f_X10_cited_L4 : Nat → PH → Nat → Int32 → Int32 → Int32 → Option Int32
  | 0, _, _, _, _, _ => none
  | fu + 1, h, v0, v1, v2, v3 =>
    (rdR h v0 12 0).bind fun x1 =>
    (alI .int h x1 (0 : Int32)).bind fun x3 =>
    if x3 ≤ v3 then
      some v2
    else
      (gd h v0 12).bind fun _ =>
      (f_X10_of h v0 v3 (3 : Int32)).bind fun p7 =>
      f_X10_cited_L4 fu h v0 v1 (v2 + ((zshr p7 v1) &&& (1 : Int32))) (v3 + (1 : Int32))
theorem b_X10_cited_L4 {X : PX} (E : z_E X cX10_cited RX10 "cited" 4 rmX10_cited (some .int)) (T0 : z_T0 X) {k n : Nat} (hk : k + 0 ≤ rmX10_cited.cells) (hn : n + 0 ≤ rmX10_cited.slots) {s : Int32} : ∀ (fu : Nat) (h : PH) (v0 : Nat) (v1 : Int32) (v2 : Int32) (v3 : Int32) (e : f_X10_cited_L4 fu h v0 v1 v2 v3 = some s) (kk : WP X 4 k n 33 [(2, .int s)] [] h), WP X 4 k n 4 [(0, .ref v0), (1, .int v1), (2, .int v2), (3, .int v3)] [] h := by
  intro fu
  induction fu with
  | zero => intro h v0 v1 v2 v3 e; exact absurd (show (none : Option Int32) = some s from e) (by intro z; cases z)
  | succ fu ih =>
    intro h v0 v1 v2 v3 e kk
    unfold f_X10_cited_L4 at e
    refine z_iload_n E 3 dX10_cited_4 rfl ?_
    refine z_aload_n E 0 dX10_cited_5 rfl ?_
    obtain ⟨x1, e2, e⟩ := ob e
    refine z_getR E fl_X10_7 dX10_cited_6 e2 ?_
    refine z_iconst E dX10_cited_9 ic_0 ?_
    obtain ⟨x3, e4, e⟩ := ob e
    refine z_iald E dX10_cited_10 e4 ?_
    rcases oi e with ⟨c5, e⟩ | ⟨c5, e⟩
    · refine z_icmp_geT (tgt := 33) E dX10_cited_11 rfl c5 ?_
      obtain rfl := Option.some.inj e
      exact z_sub [2] rfl kk
    · refine z_icmp_geF (tgt := 33) E dX10_cited_11 rfl c5 ?_
      refine z_iload_n E 2 dX10_cited_14 rfl ?_
      refine z_aload_n E 0 dX10_cited_15 rfl ?_
      refine z_iload_n E 3 dX10_cited_16 rfl ?_
      refine z_iconst E dX10_cited_17 ic_3 ?_
      obtain ⟨_, e6, e⟩ := ob e
      obtain ⟨p7, e8, e⟩ := ob e
      refine z_kR2 (st := [.int v2]) (av := [.ref v0, .int v3, .int (3 : Int32)]) E k n (z_rV (st := [.int v2]) (av := [.int v3, .int (3 : Int32)]) E Y_X10_of k_X10_73 (ci := 12) rfl (c_X10_of (z_El E) e8) dX10_cited_18 e6 rfl rfl (by decide) (by decide) (zk (k := k) (a := 0) hk (by decide)) (zk (k := n) (a := 0) hn (by decide)) (Nat.le_of_ble_eq_true rfl)) rfl rfl rfl ?_
      refine z_iload_n E 1 dX10_cited_21 rfl ?_
      refine z_ishr E dX10_cited_22 ?_
      refine z_iconst E dX10_cited_23 ic_1 ?_
      refine z_iand E dX10_cited_24 ?_
      refine z_iadd E dX10_cited_25 ?_
      refine z_istore_n (lv2 := [(2, .int (v2 + ((zshr p7 v1) &&& (1 : Int32)))), (0, .ref v0), (1, .int v1), (3, .int v3)]) E dX10_cited_26 (by decide) rfl ?_
      refine z_iinc (v := (v3 + (1 : Int32))) (lv2 := [(3, .int (v3 + (1 : Int32))), (2, .int (v2 + ((zshr p7 v1) &&& (1 : Int32)))), (0, .ref v0), (1, .int v1)]) E 3 dX10_cited_27 rfl (congrArg (v3 + ·) ic_1) (by decide) rfl ?_
      refine z_goto (tgt := 4) E dX10_cited_30 rfl ?_
      exact z_sub [2, 3, 1, 0] rfl (ih _ _ _ _ _ e kk)
noncomputable def f_X10_cited (h : PH) (a0 : Nat) (a1 : Int32) : Option Int32 :=
  (f_X10_cited_L4 FV h a0 a1 (0 : Int32) (0 : Int32)).bind fun s1 =>
  some s1
theorem b_X10_cited {X : PX} (E : z_E X cX10_cited RX10 "cited" 4 rmX10_cited (some .int)) (T0 : z_T0 X) {h : PH} {a0 : Nat} {a1 : Int32} {r : Int32} (e : f_X10_cited h a0 a1 = some r) (M : z_M X rmX10_cited.cells rmX10_cited.slots (.inr (some (.int r))) h) : WP X 4 0 0 0 [(0, .ref a0), (1, .int a1)] [] h := by
  unfold f_X10_cited at e
  refine z_iconst E dX10_cited_0 ic_0 ?_
  refine z_istore_n (lv2 := [(2, .int (0 : Int32)), (0, .ref a0), (1, .int a1)]) E dX10_cited_1 (by decide) rfl ?_
  refine z_iconst E dX10_cited_2 ic_0 ?_
  refine z_istore_n (lv2 := [(3, .int (0 : Int32)), (2, .int (0 : Int32)), (0, .ref a0), (1, .int a1)]) E dX10_cited_3 (by decide) rfl ?_
  obtain ⟨s1, e2, e⟩ := ob e
  refine z_sub [2, 3, 1, 0] rfl (b_X10_cited_L4 E T0 (by decide) (by decide) FV _ _ _ _ _ e2 ?_)
  refine z_iload_n E 0 dX10_cited_33 rfl ?_
  obtain rfl := Option.some.inj e
  exact z_iret E M dX10_cited_34 rfl rfl rfl rfl (by decide) (by decide)
theorem c_X10_cited {l : Launch} (hl : l.stackTraces = false) {h : PH} {a0 : Nat} {a1 : Int32} {r : Int32} (e : f_X10_cited h a0 a1 = some r) : CMet l yX10_cited (z_W yX10_cited cX10_cited 4 (some .int)) rmX10_cited h [.ref a0, .int a1] (.inr (some (.int r))) h :=
  z_met hl Y_X10_cited (by decide +kernel) (Nat.le_of_ble_eq_true rfl) (fun X hX E T0 M => b_X10_cited E T0 e M)
abbrev rmX10_citedBy : Room := { frames := 3, cells := 0, slots := 0, locals := 64 }
noncomputable def f_X10_citedBy (h : PH) (a0 : Nat) (a1 : Int32) : Option (Int32 × PH) :=
  (gd h a0 12).bind fun _ =>
  (f_X10_isNone h a0 a1).bind fun p2 =>
  if p2.1 = false then
    (gd p2.2 a0 12).bind fun _ =>
    (f_X10_cited p2.2 a0 a1).bind fun p6 =>
    some (p6, p2.2)
  else
    some ((0 : Int32), p2.2)
theorem b_X10_citedBy {X : PX} (E : z_E X cX10_citedBy RX10 "citedBy" 2 rmX10_citedBy (some .int)) (T0 : z_T0 X) {h : PH} {a0 : Nat} {a1 : Int32} {r : (Int32 × PH)} (e : f_X10_citedBy h a0 a1 = some r) (M : z_M X rmX10_citedBy.cells rmX10_citedBy.slots (.inr (some (.int r.1))) r.2) : WP X 2 0 0 0 [(0, .ref a0), (1, .int a1)] [] h := by
  unfold f_X10_citedBy at e
  refine z_aload_n E 0 dX10_citedBy_0 rfl ?_
  refine z_iload_n E 1 dX10_citedBy_1 rfl ?_
  obtain ⟨_, e1, e⟩ := ob e
  obtain ⟨p2, e3, e⟩ := ob e
  refine z_kR2 (st := []) (av := [.ref a0, .int a1]) E 0 0 (z_rV (st := []) (av := [.int a1]) E Y_X10_isNone k_X10_107 (ci := 12) rfl (c_X10_isNone (z_El E) e3) dX10_citedBy_2 e1 rfl rfl (by decide) (by decide) (by decide) (by decide) (Nat.zero_le _)) rfl rfl rfl ?_
  rcases oi e with ⟨c4, e⟩ | ⟨c4, e⟩
  · refine z_if_eqT (tgt := 12) E dX10_citedBy_5 rfl (zb_f c4) ?_
    refine z_aload_n E 0 dX10_citedBy_12 rfl ?_
    refine z_iload_n E 1 dX10_citedBy_13 rfl ?_
    obtain ⟨_, e5, e⟩ := ob e
    obtain ⟨p6, e7, e⟩ := ob e
    refine z_kR2 (st := []) (av := [.ref a0, .int a1]) E 0 0 (z_rV (st := []) (av := [.int a1]) E Y_X10_cited k_X10_114 (ci := 12) rfl (c_X10_cited (z_El E) e7) dX10_citedBy_14 e5 rfl rfl (by decide) (by decide) (by decide) (by decide) (Nat.zero_le _)) rfl rfl rfl ?_
    obtain rfl := Option.some.inj e
    exact z_iret E M dX10_citedBy_17 rfl rfl rfl rfl (by decide) (by decide)
  · refine z_if_eqF (tgt := 12) E dX10_citedBy_5 rfl (zb_nf c4) ?_
    refine z_iconst E dX10_citedBy_8 ic_0 ?_
    refine z_goto (tgt := 17) E dX10_citedBy_9 rfl ?_
    obtain rfl := Option.some.inj e
    exact z_iret E M dX10_citedBy_17 rfl rfl rfl rfl (by decide) (by decide)
theorem c_X10_citedBy {l : Launch} (hl : l.stackTraces = false) {h : PH} {a0 : Nat} {a1 : Int32} {r : (Int32 × PH)} (e : f_X10_citedBy h a0 a1 = some r) : CMet l yX10_citedBy (z_W yX10_citedBy cX10_citedBy 2 (some .int)) rmX10_citedBy h [.ref a0, .int a1] (.inr (some (.int r.1))) r.2 :=
  z_met hl Y_X10_citedBy (by decide +kernel) (Nat.le_of_ble_eq_true rfl) (fun X hX E T0 M => b_X10_citedBy E T0 e M)
abbrev rmX9_doesCite : Room := { frames := 7, cells := 2, slots := 12, locals := 113 }
noncomputable def f_X9_doesCite (h : PH) (a0 : Nat) (a1 : Int32) (a2 : Int32) : Option (String ⊕ Bool) :=
  (gd h a0 11).bind fun _ =>
  (f_X9_needNote h a0 a1).bind fun p2 =>
  Sum.elim
    (fun E4 =>
    some (Sum.inl E4))
    (fun y6 =>
    (gd h a0 11).bind fun _ =>
    (f_X9_needNote h a0 a2).bind fun p8 =>
    Sum.elim
      (fun E10 =>
      some (Sum.inl E10))
      (fun y12 =>
      (rdR h a0 11 0).bind fun x13 =>
      (rdR h x13 9 4).bind fun x15 =>
      (alI .int h x15 a1).bind fun x17 =>
      some (Sum.inr (f_X9_has x17 a2))) p8) p2
theorem b_X9_doesCite {X : PX} (E : z_E X cX9_doesCite RX9 "doesCite" 3 rmX9_doesCite (some .boolean)) (T0 : z_T0 X) {h : PH} {a0 : Nat} {a1 : Int32} {a2 : Int32} {r : (String ⊕ Bool)} (e : f_X9_doesCite h a0 a1 a2 = some r) (M : z_M X rmX9_doesCite.cells rmX9_doesCite.slots (zoB r) h) : WP X 3 0 0 0 [(0, .ref a0), (1, .int a1), (2, .int a2)] [] h := by
  unfold f_X9_doesCite at e
  refine z_aload_n E 0 dX9_doesCite_0 rfl ?_
  refine z_iload_n E 1 dX9_doesCite_1 rfl ?_
  obtain ⟨_, e1, e⟩ := ob e
  obtain ⟨p2, e3, e⟩ := ob e
  rcases os e with ⟨E4, c5, e⟩ | ⟨y6, c5, e⟩
  · obtain rfl := Option.some.inj e
    refine z_kX2 (st := []) (av := [.ref a0, .int a1]) E 1 6 (z_rV (st := []) (av := [.int a1]) E Y_X9_needNote k_X9_69 (ci := 11) rfl (zc_o (c_X9_needNote (z_El E) e3) (by rw [c5]; rfl)) dX9_doesCite_2 e1 rfl rfl (by decide) (by decide) (by decide) (by decide) (Nat.zero_le _)) rfl rfl rfl ?_
    exact z_outX E T0 M rfl rfl (by decide) (by decide)
  · refine z_kV2 (st := []) (av := [.ref a0, .int a1]) E 1 6 (z_rV (st := []) (av := [.int a1]) E Y_X9_needNote k_X9_69 (ci := 11) rfl (zc_o (c_X9_needNote (z_El E) e3) (by rw [c5]; rfl)) dX9_doesCite_2 e1 rfl rfl (by decide) (by decide) (by decide) (by decide) (Nat.zero_le _)) rfl rfl rfl ?_
    refine z_aload_n E 0 dX9_doesCite_5 rfl ?_
    refine z_iload_n E 2 dX9_doesCite_6 rfl ?_
    obtain ⟨_, e7, e⟩ := ob e
    obtain ⟨p8, e9, e⟩ := ob e
    rcases os e with ⟨E10, c11, e⟩ | ⟨y12, c11, e⟩
    · obtain rfl := Option.some.inj e
      refine z_kX2 (st := []) (av := [.ref a0, .int a2]) E 2 12 (z_rV (st := []) (av := [.int a2]) E Y_X9_needNote k_X9_69 (ci := 11) rfl (zc_o (c_X9_needNote (z_El E) e9) (by rw [c11]; rfl)) dX9_doesCite_7 e7 rfl rfl (by decide) (by decide) (by decide) (by decide) (Nat.zero_le _)) rfl rfl rfl ?_
      exact z_outX E T0 M rfl rfl (by decide) (by decide)
    · refine z_kV2 (st := []) (av := [.ref a0, .int a2]) E 2 12 (z_rV (st := []) (av := [.int a2]) E Y_X9_needNote k_X9_69 (ci := 11) rfl (zc_o (c_X9_needNote (z_El E) e9) (by rw [c11]; rfl)) dX9_doesCite_7 e7 rfl rfl (by decide) (by decide) (by decide) (by decide) (Nat.zero_le _)) rfl rfl rfl ?_
      refine z_aload_n E 0 dX9_doesCite_10 rfl ?_
      obtain ⟨x13, e14, e⟩ := ob e
      refine z_getR E fl_X9_12 dX9_doesCite_11 e14 ?_
      obtain ⟨x15, e16, e⟩ := ob e
      refine z_getR E fl_X9_88 dX9_doesCite_14 e16 ?_
      refine z_iload_n E 1 dX9_doesCite_17 rfl ?_
      obtain ⟨x17, e18, e⟩ := ob e
      refine z_iald E dX9_doesCite_18 e18 ?_
      refine z_iload_n E 2 dX9_doesCite_19 rfl ?_
      refine z_kR2 (st := []) (av := [.int x17, .int a2]) E 2 12 (z_rS (st := []) (av := [.int x17, .int a2]) E Y_X9_has k_X9_91 (c_X9_has (l := z_l X) (h := h) (z_El E) x17 a2) dX9_doesCite_20 rfl rfl (by decide) (by decide) (by decide) (by decide) (Nat.zero_le _)) rfl rfl rfl ?_
      obtain rfl := Option.some.inj e
      exact z_iret E M dX9_doesCite_23 rfl (zb_nar _) rfl rfl (by decide) (by decide)
theorem c_X9_doesCite {l : Launch} (hl : l.stackTraces = false) {h : PH} {a0 : Nat} {a1 : Int32} {a2 : Int32} {r : (String ⊕ Bool)} (e : f_X9_doesCite h a0 a1 a2 = some r) : CMet l yX9_doesCite (z_W yX9_doesCite cX9_doesCite 3 (some .boolean)) rmX9_doesCite h [.ref a0, .int a1, .int a2] (zoB r) h :=
  z_met hl Y_X9_doesCite (by decide +kernel) (Nat.le_of_ble_eq_true rfl) (fun X hX E T0 M => b_X9_doesCite E T0 e M)
abbrev rmL_doesCite : Room := { frames := 8, cells := 2, slots := 12, locals := 135 }
noncomputable def f_L_doesCite (h : PH) (a0 : Nat) (a1 : Int32) (a2 : Int32) (a3 : Nat) : Option (Int32 × PH) :=
  (gd h a0 11).bind fun _ =>
  (f_X9_doesCite h a0 a1 a2).bind fun p2 =>
  Sum.elim
    (fun E4 =>
    if E4 = "java/util/NoSuchElementException" then
      some ((1 : Int32), h)
    else none)
    (fun y6 =>
    if y6 = false then
      (asL h a3 (0 : Int32) (0 : Int64)).bind fun h9 =>
      some ((0 : Int32), h9)
    else
      (asL h a3 (0 : Int32) (1 : Int64)).bind fun h11 =>
      some ((0 : Int32), h11)) p2
theorem b_L_doesCite {X : PX} (E : z_E X cL_doesCite RL "doesCite" 5 rmL_doesCite (some .int)) (TT : z_TT X [(0, 17, 20, 20)]) {h : PH} {a0 : Nat} {a1 : Int32} {a2 : Int32} {a3 : Nat} {r : (Int32 × PH)} (e : f_L_doesCite h a0 a1 a2 a3 = some r) (M : z_M X rmL_doesCite.cells rmL_doesCite.slots (.inr (some (.int r.1))) r.2) : WP X 5 0 0 0 [(0, .ref a0), (1, .int a1), (2, .int a2), (3, .ref a3)] [] h := by
  unfold f_L_doesCite at e
  refine z_aload_n E 3 dL_doesCite_0 rfl ?_
  refine z_iconst E dL_doesCite_1 ic_0 ?_
  refine z_aload_n E 0 dL_doesCite_2 rfl ?_
  refine z_iload_n E 1 dL_doesCite_3 rfl ?_
  refine z_iload_n E 2 dL_doesCite_4 rfl ?_
  obtain ⟨_, e1, e⟩ := ob e
  obtain ⟨p2, e3, e⟩ := ob e
  rcases os e with ⟨E4, c5, e⟩ | ⟨y6, c5, e⟩
  · rcases oi e with ⟨c7, e⟩ | ⟨c7, e⟩
    · subst c7
      refine z_kX2 (st := [.int (0 : Int32), .ref a3]) (av := [.ref a0, .int a1, .int a2]) E 2 12 (z_rV (st := [.int (0 : Int32), .ref a3]) (av := [.int a1, .int a2]) E Y_X9_doesCite k_L_39 (ci := 11) rfl (zc_o (c_X9_doesCite (z_El E) e3) (by rw [c5]; rfl)) dL_doesCite_5 e1 rfl rfl (by decide) (by decide) (by decide) (by decide) (Nat.le_of_ble_eq_true rfl)) rfl rfl rfl ?_
      refine z_catch (lv2 := [(0, .ref a0), (1, .int a1), (2, .int a2), (3, .ref a3)]) E TT 0 (q := (0, 17, 20, 20)) rfl rfl (by decide) cl_L_20 kb_NoSuchElementException (fun z hz => nomatch hz) (Or.inr ⟨dL_doesCite_20, rfl⟩) (by decide) rfl ?_
      refine z_iconst E dL_doesCite_22 ic_1 ?_
      obtain rfl := Option.some.inj e
      exact z_iret E M dL_doesCite_23 rfl rfl rfl rfl (by decide) (by decide)
    cases e
  · refine z_kR2 (st := [.int (0 : Int32), .ref a3]) (av := [.ref a0, .int a1, .int a2]) E 2 12 (z_rV (st := [.int (0 : Int32), .ref a3]) (av := [.int a1, .int a2]) E Y_X9_doesCite k_L_39 (ci := 11) rfl (zc_o (c_X9_doesCite (z_El E) e3) (by rw [c5]; rfl)) dL_doesCite_5 e1 rfl rfl (by decide) (by decide) (by decide) (by decide) (Nat.le_of_ble_eq_true rfl)) rfl rfl rfl ?_
    rcases oi e with ⟨c8, e⟩ | ⟨c8, e⟩
    · refine z_if_eqT (tgt := 15) E dL_doesCite_8 rfl (zb_f c8) ?_
      refine z_lconst (v := (0 : Int64)) E dL_doesCite_15 rfl ?_
      obtain ⟨h9, e10, e⟩ := ob e
      refine z_last E dL_doesCite_16 e10 ?_
      refine z_goto (tgt := 24) E dL_doesCite_17 rfl ?_
      refine z_iconst E dL_doesCite_24 ic_0 ?_
      obtain rfl := Option.some.inj e
      exact z_iret E M dL_doesCite_25 rfl rfl rfl rfl (by decide) (by decide)
    · refine z_if_eqF (tgt := 15) E dL_doesCite_8 rfl (zb_nf c8) ?_
      refine z_lconst (v := (1 : Int64)) E dL_doesCite_11 rfl ?_
      refine z_goto (tgt := 16) E dL_doesCite_12 rfl ?_
      obtain ⟨h11, e12, e⟩ := ob e
      refine z_last E dL_doesCite_16 e12 ?_
      refine z_goto (tgt := 24) E dL_doesCite_17 rfl ?_
      refine z_iconst E dL_doesCite_24 ic_0 ?_
      obtain rfl := Option.some.inj e
      exact z_iret E M dL_doesCite_25 rfl rfl rfl rfl (by decide) (by decide)
theorem c_L_doesCite {l : Launch} (hl : l.stackTraces = false) {h : PH} {a0 : Nat} {a1 : Int32} {a2 : Int32} {a3 : Nat} {r : (Int32 × PH)} (e : f_L_doesCite h a0 a1 a2 a3 = some r) : CMet l yL_doesCite (z_WH yL_doesCite cL_doesCite 5 (some .int) [(0, 17, 20, 20)]) rmL_doesCite h [.ref a0, .int a1, .int a2, .ref a3] (.inr (some (.int r.1))) r.2 :=
  z_metH hl Y_L_doesCite (by decide +kernel) (Nat.le_of_ble_eq_true rfl) (fun X hX E T0 M => b_L_doesCite E T0 e M)
abbrev rmX10_doesCite : Room := { frames := 3, cells := 0, slots := 0, locals := 65 }
noncomputable def f_X10_doesCite (h : PH) (a0 : Nat) (a1 : Int32) (a2 : Int32) : Option (Bool × PH) :=
  (gd h a0 12).bind fun _ =>
  (f_X10_areNone h a0 a1 a2).bind fun p2 =>
  if p2.1 = true then
    some (false, p2.2)
  else
    (gd p2.2 a0 12).bind fun _ =>
    (f_X10_isCiting p2.2 a0 a1 a2).bind fun p6 =>
    if p6 = false then
      some (false, p2.2)
    else
      some (true, p2.2)
theorem b_X10_doesCite {X : PX} (E : z_E X cX10_doesCite RX10 "doesCite" 3 rmX10_doesCite (some .boolean)) (T0 : z_T0 X) {h : PH} {a0 : Nat} {a1 : Int32} {a2 : Int32} {r : (Bool × PH)} (e : f_X10_doesCite h a0 a1 a2 = some r) (M : z_M X rmX10_doesCite.cells rmX10_doesCite.slots (.inr (some (.int (zb r.1)))) r.2) : WP X 3 0 0 0 [(0, .ref a0), (1, .int a1), (2, .int a2)] [] h := by
  unfold f_X10_doesCite at e
  refine z_aload_n E 0 dX10_doesCite_0 rfl ?_
  refine z_iload_n E 1 dX10_doesCite_1 rfl ?_
  refine z_iload_n E 2 dX10_doesCite_2 rfl ?_
  obtain ⟨_, e1, e⟩ := ob e
  obtain ⟨p2, e3, e⟩ := ob e
  refine z_kR2 (st := []) (av := [.ref a0, .int a1, .int a2]) E 0 0 (z_rV (st := []) (av := [.int a1, .int a2]) E Y_X10_areNone k_X10_92 (ci := 12) rfl (c_X10_areNone (z_El E) e3) dX10_doesCite_3 e1 rfl rfl (by decide) (by decide) (by decide) (by decide) (Nat.zero_le _)) rfl rfl rfl ?_
  rcases oi e with ⟨c4, e⟩ | ⟨c4, e⟩
  · refine z_if_neT (tgt := 22) E dX10_doesCite_6 rfl (zb_t c4) ?_
    refine z_iconst E dX10_doesCite_22 ic_0 ?_
    obtain rfl := Option.some.inj e
    exact z_iret E M dX10_doesCite_23 rfl rfl rfl rfl (by decide) (by decide)
  · refine z_if_neF (tgt := 22) E dX10_doesCite_6 rfl (zb_nt c4) ?_
    refine z_aload_n E 0 dX10_doesCite_9 rfl ?_
    refine z_iload_n E 1 dX10_doesCite_10 rfl ?_
    refine z_iload_n E 2 dX10_doesCite_11 rfl ?_
    obtain ⟨_, e5, e⟩ := ob e
    obtain ⟨p6, e7, e⟩ := ob e
    refine z_kR2 (st := []) (av := [.ref a0, .int a1, .int a2]) E 0 0 (z_rV (st := []) (av := [.int a1, .int a2]) E Y_X10_isCiting k_X10_96 (ci := 12) rfl (c_X10_isCiting (z_El E) e7) dX10_doesCite_12 e5 rfl rfl (by decide) (by decide) (by decide) (by decide) (Nat.zero_le _)) rfl rfl rfl ?_
    rcases oi e with ⟨c8, e⟩ | ⟨c8, e⟩
    · refine z_if_eqT (tgt := 22) E dX10_doesCite_15 rfl (zb_f c8) ?_
      refine z_iconst E dX10_doesCite_22 ic_0 ?_
      obtain rfl := Option.some.inj e
      exact z_iret E M dX10_doesCite_23 rfl rfl rfl rfl (by decide) (by decide)
    · refine z_if_eqF (tgt := 22) E dX10_doesCite_15 rfl (zb_nf c8) ?_
      refine z_iconst E dX10_doesCite_18 ic_1 ?_
      refine z_goto (tgt := 23) E dX10_doesCite_19 rfl ?_
      obtain rfl := Option.some.inj e
      exact z_iret E M dX10_doesCite_23 rfl rfl rfl rfl (by decide) (by decide)
theorem c_X10_doesCite {l : Launch} (hl : l.stackTraces = false) {h : PH} {a0 : Nat} {a1 : Int32} {a2 : Int32} {r : (Bool × PH)} (e : f_X10_doesCite h a0 a1 a2 = some r) : CMet l yX10_doesCite (z_W yX10_doesCite cX10_doesCite 3 (some .boolean)) rmX10_doesCite h [.ref a0, .int a1, .int a2] (.inr (some (.int (zb r.1)))) r.2 :=
  z_met hl Y_X10_doesCite (by decide +kernel) (Nat.le_of_ble_eq_true rfl) (fun X hX E T0 M => b_X10_doesCite E T0 e M)
abbrev rmX0_fillReached : Room := { frames := 1, cells := 0, slots := 0, locals := 60 }
noncomputable def f_X0_fillReached_L27 : Nat → PH → Nat → Nat → Int32 → Int32 → Option PH
  | 0, _, _, _, _, _ => none
  | fu + 1, h, v0, v1, v2, v3 =>
    (rdI h v1 9 0).bind fun x1 =>
    if x1 ≤ v3 then
      some h
    else
      (rdR h v0 4 0).bind fun x4 =>
      (alI .int h x4 v3).bind fun x6 =>
      if (f_X9_has x6 v2) = false then
        f_X0_fillReached_L27 fu h v0 v1 v2 (v3 + (1 : Int32))
      else
        (rdR h v0 4 0).bind fun x9 =>
        (alI .int h x9 v3).bind fun x11 =>
        (rdR h v0 4 0).bind fun x13 =>
        (alI .int h x13 v2).bind fun x15 =>
        (asI .int h x9 v3 (x11 ||| x15)).bind fun h17 =>
        f_X0_fillReached_L27 fu h17 v0 v1 v2 (v3 + (1 : Int32))
theorem b_X0_fillReached_L27 {X : PX} (E : z_E X cX0_fillReached RX0 "fillReached" 4 rmX0_fillReached none) (T0 : z_T0 X) {k n : Nat} (hk : k + 0 ≤ rmX0_fillReached.cells) (hn : n + 0 ≤ rmX0_fillReached.slots) {s : PH} : ∀ (fu : Nat) (h : PH) (v0 : Nat) (v1 : Nat) (v2 : Int32) (v3 : Int32) (e : f_X0_fillReached_L27 fu h v0 v1 v2 v3 = some s) (kk : WP X 4 k n 69 [(0, .ref v0), (1, .ref v1), (2, .int v2)] [] s), WP X 4 k n 27 [(0, .ref v0), (1, .ref v1), (2, .int v2), (3, .int v3)] [] h := by
  intro fu
  induction fu with
  | zero => intro h v0 v1 v2 v3 e; exact absurd (show (none : Option PH) = some s from e) (by intro z; cases z)
  | succ fu ih =>
    intro h v0 v1 v2 v3 e kk
    unfold f_X0_fillReached_L27 at e
    refine z_iload_n E 3 dX0_fillReached_27 rfl ?_
    refine z_aload_n E 1 dX0_fillReached_28 rfl ?_
    obtain ⟨x1, e2, e⟩ := ob e
    refine z_getI E fl_X0_50 dX0_fillReached_29 e2 ?_
    rcases oi e with ⟨c3, e⟩ | ⟨c3, e⟩
    · refine z_icmp_geT (tgt := 69) E dX0_fillReached_32 rfl c3 ?_
      obtain rfl := Option.some.inj e
      exact z_sub [0, 1, 2] rfl kk
    · refine z_icmp_geF (tgt := 69) E dX0_fillReached_32 rfl c3 ?_
      refine z_aload_n E 0 dX0_fillReached_35 rfl ?_
      obtain ⟨x4, e5, e⟩ := ob e
      refine z_getR E fl_X0_9 dX0_fillReached_36 e5 ?_
      refine z_iload_n E 3 dX0_fillReached_39 rfl ?_
      obtain ⟨x6, e7, e⟩ := ob e
      refine z_iald E dX0_fillReached_40 e7 ?_
      refine z_iload_n E 2 dX0_fillReached_41 rfl ?_
      refine z_kR2 (st := []) (av := [.int x6, .int v2]) E k n (z_rSN (st := []) (av := [.int x6, .int v2]) E Y_X9_has k_X0_35 (c_X9_has (l := z_l X) (h := h) (z_El E) x6 v2) dX0_fillReached_42 rfl rfl (by decide) (by decide) (zk (k := k) (a := 0) hk (by decide)) (zk (k := n) (a := 0) hn (by decide)) (Nat.zero_le _)) rfl rfl rfl ?_
      rcases oi e with ⟨c8, e⟩ | ⟨c8, e⟩
      · refine z_if_eqT (tgt := 63) E dX0_fillReached_45 rfl (zb_f c8) ?_
        refine z_iinc (v := (v3 + (1 : Int32))) (lv2 := [(3, .int (v3 + (1 : Int32))), (0, .ref v0), (1, .ref v1), (2, .int v2)]) E 3 dX0_fillReached_63 rfl (congrArg (v3 + ·) ic_1) (by decide) rfl ?_
        refine z_goto (tgt := 27) E dX0_fillReached_66 rfl ?_
        exact z_sub [1, 2, 3, 0] rfl (ih _ _ _ _ _ e kk)
      · refine z_if_eqF (tgt := 63) E dX0_fillReached_45 rfl (zb_nf c8) ?_
        refine z_aload_n E 0 dX0_fillReached_48 rfl ?_
        obtain ⟨x9, e10, e⟩ := ob e
        refine z_getR E fl_X0_9 dX0_fillReached_49 e10 ?_
        refine z_iload_n E 3 dX0_fillReached_52 rfl ?_
        refine z_dup2 E dX0_fillReached_53 rfl rfl ?_
        obtain ⟨x11, e12, e⟩ := ob e
        refine z_iald E dX0_fillReached_54 e12 ?_
        refine z_aload_n E 0 dX0_fillReached_55 rfl ?_
        obtain ⟨x13, e14, e⟩ := ob e
        refine z_getR E fl_X0_9 dX0_fillReached_56 e14 ?_
        refine z_iload_n E 2 dX0_fillReached_59 rfl ?_
        obtain ⟨x15, e16, e⟩ := ob e
        refine z_iald E dX0_fillReached_60 e16 ?_
        refine z_ior E dX0_fillReached_61 ?_
        obtain ⟨h17, e18, e⟩ := ob e
        refine z_iast E dX0_fillReached_62 e18 ?_
        refine z_iinc (v := (v3 + (1 : Int32))) (lv2 := [(3, .int (v3 + (1 : Int32))), (0, .ref v0), (1, .ref v1), (2, .int v2)]) E 3 dX0_fillReached_63 rfl (congrArg (v3 + ·) ic_1) (by decide) rfl ?_
        refine z_goto (tgt := 27) E dX0_fillReached_66 rfl ?_
        exact z_sub [1, 2, 3, 0] rfl (ih _ _ _ _ _ e kk)
noncomputable def f_X0_fillReached_L17 : Nat → PH → Nat → Nat → Int32 → Option PH
  | 0, _, _, _, _ => none
  | fu + 1, h, v0, v1, v2 =>
    (rdI h v1 9 0).bind fun x1 =>
    if x1 ≤ v2 then
      some h
    else
      (f_X0_fillReached_L27 FV h v0 v1 v2 (0 : Int32)).bind fun s4 =>
      f_X0_fillReached_L17 fu s4 v0 v1 (v2 + (1 : Int32))
theorem b_X0_fillReached_L17 {X : PX} (E : z_E X cX0_fillReached RX0 "fillReached" 4 rmX0_fillReached none) (T0 : z_T0 X) {k n : Nat} (hk : k + 0 ≤ rmX0_fillReached.cells) (hn : n + 0 ≤ rmX0_fillReached.slots) {s : PH} : ∀ (fu : Nat) (h : PH) (v0 : Nat) (v1 : Nat) (v2 : Int32) (e : f_X0_fillReached_L17 fu h v0 v1 v2 = some s) (kk : WP X 4 k n 75 [] [] s), WP X 4 k n 17 [(0, .ref v0), (1, .ref v1), (2, .int v2)] [] h := by
  intro fu
  induction fu with
  | zero => intro h v0 v1 v2 e; exact absurd (show (none : Option PH) = some s from e) (by intro z; cases z)
  | succ fu ih =>
    intro h v0 v1 v2 e kk
    unfold f_X0_fillReached_L17 at e
    refine z_iload_n E 2 dX0_fillReached_17 rfl ?_
    refine z_aload_n E 1 dX0_fillReached_18 rfl ?_
    obtain ⟨x1, e2, e⟩ := ob e
    refine z_getI E fl_X0_50 dX0_fillReached_19 e2 ?_
    rcases oi e with ⟨c3, e⟩ | ⟨c3, e⟩
    · refine z_icmp_geT (tgt := 75) E dX0_fillReached_22 rfl c3 ?_
      obtain rfl := Option.some.inj e
      exact z_sub [] rfl kk
    · refine z_icmp_geF (tgt := 75) E dX0_fillReached_22 rfl c3 ?_
      refine z_iconst E dX0_fillReached_25 ic_0 ?_
      refine z_istore_n (lv2 := [(3, .int (0 : Int32)), (0, .ref v0), (1, .ref v1), (2, .int v2)]) E dX0_fillReached_26 (by decide) rfl ?_
      obtain ⟨s4, e5, e⟩ := ob e
      refine z_sub [1, 2, 3, 0] rfl (b_X0_fillReached_L27 E T0 (zk (k := k) (a := 0) hk (by decide)) (zk (k := n) (a := 0) hn (by decide)) FV _ _ _ _ _ e5 ?_)
      refine z_iinc (v := (v2 + (1 : Int32))) (lv2 := [(2, .int (v2 + (1 : Int32))), (0, .ref v0), (1, .ref v1)]) E 2 dX0_fillReached_69 rfl (congrArg (v2 + ·) ic_1) (by decide) rfl ?_
      refine z_goto (tgt := 17) E dX0_fillReached_72 rfl ?_
      exact z_sub [1, 2, 0] rfl (ih _ _ _ _ e kk)
noncomputable def f_X0_fillReached (h : PH) (a0 : Nat) (a1 : Nat) : Option PH :=
  (rdR h a1 9 4).bind fun x1 =>
  (rdR h a0 4 0).bind fun x3 =>
  (cpI .int h x1 (0 : Int32) x3 (0 : Int32) (10 : Int32)).bind fun h5 =>
  (f_X0_fillReached_L17 FV h5 a0 a1 (0 : Int32)).bind fun s7 =>
  some s7
theorem b_X0_fillReached {X : PX} (E : z_E X cX0_fillReached RX0 "fillReached" 4 rmX0_fillReached none) (T0 : z_T0 X) {h : PH} {a0 : Nat} {a1 : Nat} {r : PH} (e : f_X0_fillReached h a0 a1 = some r) (M : z_M X rmX0_fillReached.cells rmX0_fillReached.slots (.inr none) r) : WP X 4 0 0 0 [(0, .ref a0), (1, .ref a1)] [] h := by
  unfold f_X0_fillReached at e
  refine z_aload_n E 1 dX0_fillReached_0 rfl ?_
  obtain ⟨x1, e2, e⟩ := ob e
  refine z_getR E fl_X0_39 dX0_fillReached_1 e2 ?_
  refine z_iconst E dX0_fillReached_4 ic_0 ?_
  refine z_aload_n E 0 dX0_fillReached_5 rfl ?_
  obtain ⟨x3, e4, e⟩ := ob e
  refine z_getR E fl_X0_9 dX0_fillReached_6 e4 ?_
  refine z_iconst E dX0_fillReached_9 ic_0 ?_
  refine z_bipush E dX0_fillReached_10 bp_10 ?_
  obtain ⟨h5, e6, e⟩ := ob e
  refine z_cpI E ar_X0_44 dX0_fillReached_12 e6 (by decide) (Nat.le_of_ble_eq_true rfl) ?_
  refine z_iconst E dX0_fillReached_15 ic_0 ?_
  refine z_istore_n (lv2 := [(2, .int (0 : Int32)), (0, .ref a0), (1, .ref a1)]) E dX0_fillReached_16 (by decide) rfl ?_
  obtain ⟨s7, e8, e⟩ := ob e
  refine z_sub [1, 2, 0] rfl (b_X0_fillReached_L17 E T0 (by decide) (by decide) FV _ _ _ _ e8 ?_)
  obtain rfl := Option.some.inj e
  exact z_vret E M dX0_fillReached_75 rfl rfl rfl (by decide) (by decide)
theorem c_X0_fillReached {l : Launch} (hl : l.stackTraces = false) {h : PH} {a0 : Nat} {a1 : Nat} {r : PH} (e : f_X0_fillReached h a0 a1 = some r) : CMet l yX0_fillReached (z_W yX0_fillReached cX0_fillReached 4 none) rmX0_fillReached h [.ref a0, .ref a1] (.inr none) r :=
  z_met hl Y_X0_fillReached (by decide +kernel) (Nat.le_of_ble_eq_true rfl) (fun X hX E T0 M => b_X0_fillReached E T0 e M)
abbrev rmX0_leadsTo : Room := { frames := 2, cells := 0, slots := 0, locals := 83 }
noncomputable def f_X0_leadsTo (h : PH) (a0 : Nat) (a1 : Nat) (a2 : Int32) (a3 : Int32) : Option (Bool × PH) :=
  (gd h a0 4).bind fun _ =>
  (f_X0_fillReached h a0 a1).bind fun p2 =>
  (rdR p2 a0 4 0).bind fun x4 =>
  (alI .int p2 x4 a2).bind fun x6 =>
  some ((f_X9_has x6 a3), p2)
theorem b_X0_leadsTo {X : PX} (E : z_E X cX0_leadsTo RX0 "leadsTo" 4 rmX0_leadsTo (some .boolean)) (T0 : z_T0 X) {h : PH} {a0 : Nat} {a1 : Nat} {a2 : Int32} {a3 : Int32} {r : (Bool × PH)} (e : f_X0_leadsTo h a0 a1 a2 a3 = some r) (M : z_M X rmX0_leadsTo.cells rmX0_leadsTo.slots (.inr (some (.int (zb r.1)))) r.2) : WP X 4 0 0 0 [(0, .ref a0), (1, .ref a1), (2, .int a2), (3, .int a3)] [] h := by
  unfold f_X0_leadsTo at e
  refine z_aload_n E 0 dX0_leadsTo_0 rfl ?_
  refine z_aload_n E 1 dX0_leadsTo_1 rfl ?_
  obtain ⟨_, e1, e⟩ := ob e
  obtain ⟨p2, e3, e⟩ := ob e
  refine z_kV2 (st := []) (av := [.ref a0, .ref a1]) E 0 0 (z_rV (st := []) (av := [.ref a1]) E Y_X0_fillReached k_X0_31 (ci := 4) rfl (c_X0_fillReached (z_El E) e3) dX0_leadsTo_2 e1 rfl rfl (by decide) (by decide) (by decide) (by decide) (Nat.zero_le _)) rfl rfl rfl ?_
  refine z_aload_n E 0 dX0_leadsTo_5 rfl ?_
  obtain ⟨x4, e5, e⟩ := ob e
  refine z_getR E fl_X0_9 dX0_leadsTo_6 e5 ?_
  refine z_iload_n E 2 dX0_leadsTo_9 rfl ?_
  obtain ⟨x6, e7, e⟩ := ob e
  refine z_iald E dX0_leadsTo_10 e7 ?_
  refine z_iload_n E 3 dX0_leadsTo_11 rfl ?_
  refine z_kR2 (st := []) (av := [.int x6, .int a3]) E 0 0 (z_rSN (st := []) (av := [.int x6, .int a3]) E Y_X9_has k_X0_35 (c_X9_has (l := z_l X) (h := p2) (z_El E) x6 a3) dX0_leadsTo_12 rfl rfl (by decide) (by decide) (by decide) (by decide) (Nat.zero_le _)) rfl rfl rfl ?_
  obtain rfl := Option.some.inj e
  exact z_iret E M dX0_leadsTo_15 rfl (zb_nar _) rfl rfl (by decide) (by decide)
theorem c_X0_leadsTo {l : Launch} (hl : l.stackTraces = false) {h : PH} {a0 : Nat} {a1 : Nat} {a2 : Int32} {a3 : Int32} {r : (Bool × PH)} (e : f_X0_leadsTo h a0 a1 a2 a3 = some r) : CMet l yX0_leadsTo (z_W yX0_leadsTo cX0_leadsTo 4 (some .boolean)) rmX0_leadsTo h [.ref a0, .ref a1, .int a2, .int a3] (.inr (some (.int (zb r.1)))) r.2 :=
  z_met hl Y_X0_leadsTo (by decide +kernel) (Nat.le_of_ble_eq_true rfl) (fun X hX E T0 M => b_X0_leadsTo E T0 e M)
abbrev rmX9_reaches : Room := { frames := 7, cells := 2, slots := 12, locals := 113 }
noncomputable def f_X9_reaches (h : PH) (a0 : Nat) (a1 : Int32) (a2 : Int32) : Option ((String ⊕ Bool) × PH) :=
  (gd h a0 11).bind fun _ =>
  (f_X9_needNote h a0 a1).bind fun p2 =>
  Sum.elim
    (fun E4 =>
    some ((Sum.inl E4), h))
    (fun y6 =>
    (gd h a0 11).bind fun _ =>
    (f_X9_needNote h a0 a2).bind fun p8 =>
    Sum.elim
      (fun E10 =>
      some ((Sum.inl E10), h))
      (fun y12 =>
      (rdR h a0 11 4).bind fun x13 =>
      (rdR h a0 11 0).bind fun x15 =>
      (gd h x13 4).bind fun _ =>
      (f_X0_leadsTo h x13 x15 a1 a2).bind fun p18 =>
      some ((Sum.inr p18.1), p18.2)) p8) p2
theorem b_X9_reaches {X : PX} (E : z_E X cX9_reaches RX9 "reaches" 3 rmX9_reaches (some .boolean)) (T0 : z_T0 X) {h : PH} {a0 : Nat} {a1 : Int32} {a2 : Int32} {r : ((String ⊕ Bool) × PH)} (e : f_X9_reaches h a0 a1 a2 = some r) (M : z_M X rmX9_reaches.cells rmX9_reaches.slots (zoB r.1) r.2) : WP X 3 0 0 0 [(0, .ref a0), (1, .int a1), (2, .int a2)] [] h := by
  unfold f_X9_reaches at e
  refine z_aload_n E 0 dX9_reaches_0 rfl ?_
  refine z_iload_n E 1 dX9_reaches_1 rfl ?_
  obtain ⟨_, e1, e⟩ := ob e
  obtain ⟨p2, e3, e⟩ := ob e
  rcases os e with ⟨E4, c5, e⟩ | ⟨y6, c5, e⟩
  · obtain rfl := Option.some.inj e
    refine z_kX2 (st := []) (av := [.ref a0, .int a1]) E 1 6 (z_rV (st := []) (av := [.int a1]) E Y_X9_needNote k_X9_69 (ci := 11) rfl (zc_o (c_X9_needNote (z_El E) e3) (by rw [c5]; rfl)) dX9_reaches_2 e1 rfl rfl (by decide) (by decide) (by decide) (by decide) (Nat.zero_le _)) rfl rfl rfl ?_
    exact z_outX E T0 M rfl rfl (by decide) (by decide)
  · refine z_kV2 (st := []) (av := [.ref a0, .int a1]) E 1 6 (z_rV (st := []) (av := [.int a1]) E Y_X9_needNote k_X9_69 (ci := 11) rfl (zc_o (c_X9_needNote (z_El E) e3) (by rw [c5]; rfl)) dX9_reaches_2 e1 rfl rfl (by decide) (by decide) (by decide) (by decide) (Nat.zero_le _)) rfl rfl rfl ?_
    refine z_aload_n E 0 dX9_reaches_5 rfl ?_
    refine z_iload_n E 2 dX9_reaches_6 rfl ?_
    obtain ⟨_, e7, e⟩ := ob e
    obtain ⟨p8, e9, e⟩ := ob e
    rcases os e with ⟨E10, c11, e⟩ | ⟨y12, c11, e⟩
    · obtain rfl := Option.some.inj e
      refine z_kX2 (st := []) (av := [.ref a0, .int a2]) E 2 12 (z_rV (st := []) (av := [.int a2]) E Y_X9_needNote k_X9_69 (ci := 11) rfl (zc_o (c_X9_needNote (z_El E) e9) (by rw [c11]; rfl)) dX9_reaches_7 e7 rfl rfl (by decide) (by decide) (by decide) (by decide) (Nat.zero_le _)) rfl rfl rfl ?_
      exact z_outX E T0 M rfl rfl (by decide) (by decide)
    · refine z_kV2 (st := []) (av := [.ref a0, .int a2]) E 2 12 (z_rV (st := []) (av := [.int a2]) E Y_X9_needNote k_X9_69 (ci := 11) rfl (zc_o (c_X9_needNote (z_El E) e9) (by rw [c11]; rfl)) dX9_reaches_7 e7 rfl rfl (by decide) (by decide) (by decide) (by decide) (Nat.zero_le _)) rfl rfl rfl ?_
      refine z_aload_n E 0 dX9_reaches_10 rfl ?_
      obtain ⟨x13, e14, e⟩ := ob e
      refine z_getR E fl_X9_36 dX9_reaches_11 e14 ?_
      refine z_aload_n E 0 dX9_reaches_14 rfl ?_
      obtain ⟨x15, e16, e⟩ := ob e
      refine z_getR E fl_X9_12 dX9_reaches_15 e16 ?_
      refine z_iload_n E 1 dX9_reaches_18 rfl ?_
      refine z_iload_n E 2 dX9_reaches_19 rfl ?_
      obtain ⟨_, e17, e⟩ := ob e
      obtain ⟨p18, e19, e⟩ := ob e
      refine z_kR2 (st := []) (av := [.ref x13, .ref x15, .int a1, .int a2]) E 2 12 (z_rV (st := []) (av := [.ref x15, .int a1, .int a2]) E Y_X0_leadsTo k_X9_95 (ci := 4) rfl (c_X0_leadsTo (z_El E) e19) dX9_reaches_20 e17 rfl rfl (by decide) (by decide) (by decide) (by decide) (Nat.zero_le _)) rfl rfl rfl ?_
      obtain rfl := Option.some.inj e
      exact z_iret E M dX9_reaches_23 rfl (zb_nar _) rfl rfl (by decide) (by decide)
theorem c_X9_reaches {l : Launch} (hl : l.stackTraces = false) {h : PH} {a0 : Nat} {a1 : Int32} {a2 : Int32} {r : ((String ⊕ Bool) × PH)} (e : f_X9_reaches h a0 a1 a2 = some r) : CMet l yX9_reaches (z_W yX9_reaches cX9_reaches 3 (some .boolean)) rmX9_reaches h [.ref a0, .int a1, .int a2] (zoB r.1) r.2 :=
  z_met hl Y_X9_reaches (by decide +kernel) (Nat.le_of_ble_eq_true rfl) (fun X hX E T0 M => b_X9_reaches E T0 e M)
abbrev rmL_reaches : Room := { frames := 8, cells := 2, slots := 12, locals := 135 }
noncomputable def f_L_reaches (h : PH) (a0 : Nat) (a1 : Int32) (a2 : Int32) (a3 : Nat) : Option (Int32 × PH) :=
  (gd h a0 11).bind fun _ =>
  (f_X9_reaches h a0 a1 a2).bind fun p2 =>
  Sum.elim
    (fun E4 =>
    if E4 = "java/util/NoSuchElementException" then
      some ((1 : Int32), p2.2)
    else none)
    (fun y6 =>
    if y6 = false then
      (asL p2.2 a3 (0 : Int32) (0 : Int64)).bind fun h9 =>
      some ((0 : Int32), h9)
    else
      (asL p2.2 a3 (0 : Int32) (1 : Int64)).bind fun h11 =>
      some ((0 : Int32), h11)) p2.1
theorem b_L_reaches {X : PX} (E : z_E X cL_reaches RL "reaches" 5 rmL_reaches (some .int)) (TT : z_TT X [(0, 17, 20, 20)]) {h : PH} {a0 : Nat} {a1 : Int32} {a2 : Int32} {a3 : Nat} {r : (Int32 × PH)} (e : f_L_reaches h a0 a1 a2 a3 = some r) (M : z_M X rmL_reaches.cells rmL_reaches.slots (.inr (some (.int r.1))) r.2) : WP X 5 0 0 0 [(0, .ref a0), (1, .int a1), (2, .int a2), (3, .ref a3)] [] h := by
  unfold f_L_reaches at e
  refine z_aload_n E 3 dL_reaches_0 rfl ?_
  refine z_iconst E dL_reaches_1 ic_0 ?_
  refine z_aload_n E 0 dL_reaches_2 rfl ?_
  refine z_iload_n E 1 dL_reaches_3 rfl ?_
  refine z_iload_n E 2 dL_reaches_4 rfl ?_
  obtain ⟨_, e1, e⟩ := ob e
  obtain ⟨p2, e3, e⟩ := ob e
  rcases os e with ⟨E4, c5, e⟩ | ⟨y6, c5, e⟩
  · rcases oi e with ⟨c7, e⟩ | ⟨c7, e⟩
    · subst c7
      refine z_kX2 (st := [.int (0 : Int32), .ref a3]) (av := [.ref a0, .int a1, .int a2]) E 2 12 (z_rV (st := [.int (0 : Int32), .ref a3]) (av := [.int a1, .int a2]) E Y_X9_reaches k_L_43 (ci := 11) rfl (zc_o (c_X9_reaches (z_El E) e3) (by rw [c5]; rfl)) dL_reaches_5 e1 rfl rfl (by decide) (by decide) (by decide) (by decide) (Nat.le_of_ble_eq_true rfl)) rfl rfl rfl ?_
      refine z_catch (lv2 := [(0, .ref a0), (1, .int a1), (2, .int a2), (3, .ref a3)]) E TT 0 (q := (0, 17, 20, 20)) rfl rfl (by decide) cl_L_20 kb_NoSuchElementException (fun z hz => nomatch hz) (Or.inr ⟨dL_reaches_20, rfl⟩) (by decide) rfl ?_
      refine z_iconst E dL_reaches_22 ic_1 ?_
      obtain rfl := Option.some.inj e
      exact z_iret E M dL_reaches_23 rfl rfl rfl rfl (by decide) (by decide)
    cases e
  · refine z_kR2 (st := [.int (0 : Int32), .ref a3]) (av := [.ref a0, .int a1, .int a2]) E 2 12 (z_rV (st := [.int (0 : Int32), .ref a3]) (av := [.int a1, .int a2]) E Y_X9_reaches k_L_43 (ci := 11) rfl (zc_o (c_X9_reaches (z_El E) e3) (by rw [c5]; rfl)) dL_reaches_5 e1 rfl rfl (by decide) (by decide) (by decide) (by decide) (Nat.le_of_ble_eq_true rfl)) rfl rfl rfl ?_
    rcases oi e with ⟨c8, e⟩ | ⟨c8, e⟩
    · refine z_if_eqT (tgt := 15) E dL_reaches_8 rfl (zb_f c8) ?_
      refine z_lconst (v := (0 : Int64)) E dL_reaches_15 rfl ?_
      obtain ⟨h9, e10, e⟩ := ob e
      refine z_last E dL_reaches_16 e10 ?_
      refine z_goto (tgt := 24) E dL_reaches_17 rfl ?_
      refine z_iconst E dL_reaches_24 ic_0 ?_
      obtain rfl := Option.some.inj e
      exact z_iret E M dL_reaches_25 rfl rfl rfl rfl (by decide) (by decide)
    · refine z_if_eqF (tgt := 15) E dL_reaches_8 rfl (zb_nf c8) ?_
      refine z_lconst (v := (1 : Int64)) E dL_reaches_11 rfl ?_
      refine z_goto (tgt := 16) E dL_reaches_12 rfl ?_
      obtain ⟨h11, e12, e⟩ := ob e
      refine z_last E dL_reaches_16 e12 ?_
      refine z_goto (tgt := 24) E dL_reaches_17 rfl ?_
      refine z_iconst E dL_reaches_24 ic_0 ?_
      obtain rfl := Option.some.inj e
      exact z_iret E M dL_reaches_25 rfl rfl rfl rfl (by decide) (by decide)
theorem c_L_reaches {l : Launch} (hl : l.stackTraces = false) {h : PH} {a0 : Nat} {a1 : Int32} {a2 : Int32} {a3 : Nat} {r : (Int32 × PH)} (e : f_L_reaches h a0 a1 a2 a3 = some r) : CMet l yL_reaches (z_WH yL_reaches cL_reaches 5 (some .int) [(0, 17, 20, 20)]) rmL_reaches h [.ref a0, .int a1, .int a2, .ref a3] (.inr (some (.int r.1))) r.2 :=
  z_metH hl Y_L_reaches (by decide +kernel) (Nat.le_of_ble_eq_true rfl) (fun X hX E T0 M => b_L_reaches E T0 e M)
abbrev rmX10_reached : Room := { frames := 1, cells := 0, slots := 0, locals := 22 }
noncomputable def f_X10_reached_L19 : Nat → PH → Nat → Int32 → Int32 → Int32 → Option Int32
  | 0, _, _, _, _, _ => none
  | fu + 1, h, v0, v2, v3, v4 =>
    (rdR h v0 12 0).bind fun x1 =>
    (alI .int h x1 (0 : Int32)).bind fun x3 =>
    if x3 ≤ v4 then
      some v2
    else
      if ¬ ((zshr v3 v4) &&& (1 : Int32)) = (1 : Int32) then
        f_X10_reached_L19 fu h v0 v2 v3 (v4 + (1 : Int32))
      else
        (gd h v0 12).bind fun _ =>
        (f_X10_of h v0 v4 (3 : Int32)).bind fun p8 =>
        f_X10_reached_L19 fu h v0 (v2 ||| p8) v3 (v4 + (1 : Int32))
theorem b_X10_reached_L19 {X : PX} (E : z_E X cX10_reached RX10 "reached" 5 rmX10_reached (some .int)) (T0 : z_T0 X) {k n : Nat} (hk : k + 0 ≤ rmX10_reached.cells) (hn : n + 0 ≤ rmX10_reached.slots) {s : Int32} : ∀ (fu : Nat) (h : PH) (v0 : Nat) (v2 : Int32) (v3 : Int32) (v4 : Int32) (e : f_X10_reached_L19 fu h v0 v2 v3 v4 = some s) (kk : WP X 5 k n 56 [(0, .ref v0), (2, .int s), (3, .int v3)] [] h), WP X 5 k n 19 [(0, .ref v0), (2, .int v2), (3, .int v3), (4, .int v4)] [] h := by
  intro fu
  induction fu with
  | zero => intro h v0 v2 v3 v4 e; exact absurd (show (none : Option Int32) = some s from e) (by intro z; cases z)
  | succ fu ih =>
    intro h v0 v2 v3 v4 e kk
    unfold f_X10_reached_L19 at e
    refine z_iload E 3 dX10_reached_19 rfl ?_
    refine z_aload_n E 0 dX10_reached_21 rfl ?_
    obtain ⟨x1, e2, e⟩ := ob e
    refine z_getR E fl_X10_7 dX10_reached_22 e2 ?_
    refine z_iconst E dX10_reached_25 ic_0 ?_
    obtain ⟨x3, e4, e⟩ := ob e
    refine z_iald E dX10_reached_26 e4 ?_
    rcases oi e with ⟨c5, e⟩ | ⟨c5, e⟩
    · refine z_icmp_geT (tgt := 56) E dX10_reached_27 rfl c5 ?_
      obtain rfl := Option.some.inj e
      exact z_sub [0, 1, 2] rfl kk
    · refine z_icmp_geF (tgt := 56) E dX10_reached_27 rfl c5 ?_
      refine z_iload_n E 2 dX10_reached_30 rfl ?_
      refine z_iload E 3 dX10_reached_31 rfl ?_
      refine z_ishr E dX10_reached_33 ?_
      refine z_iconst E dX10_reached_34 ic_1 ?_
      refine z_iand E dX10_reached_35 ?_
      refine z_iconst E dX10_reached_36 ic_1 ?_
      rcases oi e with ⟨c6, e⟩ | ⟨c6, e⟩
      · refine z_icmp_neT (tgt := 50) E dX10_reached_37 rfl c6 ?_
        refine z_iinc (v := (v4 + (1 : Int32))) (lv2 := [(4, .int (v4 + (1 : Int32))), (0, .ref v0), (2, .int v2), (3, .int v3)]) E 3 dX10_reached_50 rfl (congrArg (v4 + ·) ic_1) (by decide) rfl ?_
        refine z_goto (tgt := 19) E dX10_reached_53 rfl ?_
        exact z_sub [1, 2, 3, 0] rfl (ih _ _ _ _ _ e kk)
      · refine z_icmp_neF (tgt := 50) E dX10_reached_37 rfl (Classical.not_not.mp c6) ?_
        refine z_iload_n E 1 dX10_reached_40 rfl ?_
        refine z_aload_n E 0 dX10_reached_41 rfl ?_
        refine z_iload E 3 dX10_reached_42 rfl ?_
        refine z_iconst E dX10_reached_44 ic_3 ?_
        obtain ⟨_, e7, e⟩ := ob e
        obtain ⟨p8, e9, e⟩ := ob e
        refine z_kR2 (st := [.int v2]) (av := [.ref v0, .int v4, .int (3 : Int32)]) E k n (z_rV (st := [.int v2]) (av := [.int v4, .int (3 : Int32)]) E Y_X10_of k_X10_73 (ci := 12) rfl (c_X10_of (z_El E) e9) dX10_reached_45 e7 rfl rfl (by decide) (by decide) (zk (k := k) (a := 0) hk (by decide)) (zk (k := n) (a := 0) hn (by decide)) (Nat.le_of_ble_eq_true rfl)) rfl rfl rfl ?_
        refine z_ior E dX10_reached_48 ?_
        refine z_istore_n (lv2 := [(2, .int (v2 ||| p8)), (0, .ref v0), (3, .int v3), (4, .int v4)]) E dX10_reached_49 (by decide) rfl ?_
        refine z_iinc (v := (v4 + (1 : Int32))) (lv2 := [(4, .int (v4 + (1 : Int32))), (2, .int (v2 ||| p8)), (0, .ref v0), (3, .int v3)]) E 3 dX10_reached_50 rfl (congrArg (v4 + ·) ic_1) (by decide) rfl ?_
        refine z_goto (tgt := 19) E dX10_reached_53 rfl ?_
        exact z_sub [2, 1, 3, 0] rfl (ih _ _ _ _ _ e kk)
noncomputable def f_X10_reached_L9 : Nat → PH → Nat → Int32 → Int32 → Option Int32
  | 0, _, _, _, _ => none
  | fu + 1, h, v0, v2, v3 =>
    if v2 = v3 then
      some v2
    else
      (f_X10_reached_L19 FV h v0 v2 v2 (0 : Int32)).bind fun s2 =>
      f_X10_reached_L9 fu h v0 s2 v2
theorem b_X10_reached_L9 {X : PX} (E : z_E X cX10_reached RX10 "reached" 5 rmX10_reached (some .int)) (T0 : z_T0 X) {k n : Nat} (hk : k + 0 ≤ rmX10_reached.cells) (hn : n + 0 ≤ rmX10_reached.slots) {s : Int32} : ∀ (fu : Nat) (h : PH) (v0 : Nat) (v2 : Int32) (v3 : Int32) (e : f_X10_reached_L9 fu h v0 v2 v3 = some s) (kk : WP X 5 k n 59 [(2, .int s)] [] h), WP X 5 k n 9 [(0, .ref v0), (2, .int v2), (3, .int v3)] [] h := by
  intro fu
  induction fu with
  | zero => intro h v0 v2 v3 e; exact absurd (show (none : Option Int32) = some s from e) (by intro z; cases z)
  | succ fu ih =>
    intro h v0 v2 v3 e kk
    unfold f_X10_reached_L9 at e
    refine z_iload_n E 1 dX10_reached_9 rfl ?_
    refine z_iload_n E 2 dX10_reached_10 rfl ?_
    rcases oi e with ⟨c1, e⟩ | ⟨c1, e⟩
    · refine z_icmp_eqT (tgt := 59) E dX10_reached_11 rfl c1 ?_
      obtain rfl := Option.some.inj e
      exact z_sub [1] rfl kk
    · refine z_icmp_eqF (tgt := 59) E dX10_reached_11 rfl c1 ?_
      refine z_iload_n E 1 dX10_reached_14 rfl ?_
      refine z_istore_n (lv2 := [(3, .int v2), (0, .ref v0), (2, .int v2)]) E dX10_reached_15 (by decide) rfl ?_
      refine z_iconst E dX10_reached_16 ic_0 ?_
      refine z_istore (lv2 := [(4, .int (0 : Int32)), (3, .int v2), (0, .ref v0), (2, .int v2)]) E dX10_reached_17 (by decide) rfl ?_
      obtain ⟨s2, e3, e⟩ := ob e
      refine z_sub [2, 3, 1, 0] rfl (b_X10_reached_L19 E T0 (zk (k := k) (a := 0) hk (by decide)) (zk (k := n) (a := 0) hn (by decide)) FV _ _ _ _ _ e3 ?_)
      refine z_goto (tgt := 9) E dX10_reached_56 rfl ?_
      exact z_sub [0, 1, 2] rfl (ih _ _ _ _ e kk)
noncomputable def f_X10_reached (h : PH) (a0 : Nat) (a1 : Int32) : Option Int32 :=
  (gd h a0 12).bind fun _ =>
  (f_X10_of h a0 a1 (3 : Int32)).bind fun p2 =>
  (f_X10_reached_L9 FV h a0 p2 (-1 : Int32)).bind fun s4 =>
  some s4
theorem b_X10_reached {X : PX} (E : z_E X cX10_reached RX10 "reached" 5 rmX10_reached (some .int)) (T0 : z_T0 X) {h : PH} {a0 : Nat} {a1 : Int32} {r : Int32} (e : f_X10_reached h a0 a1 = some r) (M : z_M X rmX10_reached.cells rmX10_reached.slots (.inr (some (.int r))) h) : WP X 5 0 0 0 [(0, .ref a0), (1, .int a1)] [] h := by
  unfold f_X10_reached at e
  refine z_aload_n E 0 dX10_reached_0 rfl ?_
  refine z_iload_n E 1 dX10_reached_1 rfl ?_
  refine z_iconst E dX10_reached_2 ic_3 ?_
  obtain ⟨_, e1, e⟩ := ob e
  obtain ⟨p2, e3, e⟩ := ob e
  refine z_kR2 (st := []) (av := [.ref a0, .int a1, .int (3 : Int32)]) E 0 0 (z_rV (st := []) (av := [.int a1, .int (3 : Int32)]) E Y_X10_of k_X10_73 (ci := 12) rfl (c_X10_of (z_El E) e3) dX10_reached_3 e1 rfl rfl (by decide) (by decide) (by decide) (by decide) (Nat.zero_le _)) rfl rfl rfl ?_
  refine z_istore_n (lv2 := [(2, .int p2), (0, .ref a0), (1, .int a1)]) E dX10_reached_6 (by decide) rfl ?_
  refine z_iconst E dX10_reached_7 ic_m1 ?_
  refine z_istore_n (lv2 := [(3, .int (-1 : Int32)), (2, .int p2), (0, .ref a0), (1, .int a1)]) E dX10_reached_8 (by decide) rfl ?_
  obtain ⟨s4, e5, e⟩ := ob e
  refine z_sub [2, 1, 0] rfl (b_X10_reached_L9 E T0 (by decide) (by decide) FV _ _ _ _ e5 ?_)
  refine z_iload_n E 0 dX10_reached_59 rfl ?_
  obtain rfl := Option.some.inj e
  exact z_iret E M dX10_reached_60 rfl rfl rfl rfl (by decide) (by decide)
theorem c_X10_reached {l : Launch} (hl : l.stackTraces = false) {h : PH} {a0 : Nat} {a1 : Int32} {r : Int32} (e : f_X10_reached h a0 a1 = some r) : CMet l yX10_reached (z_W yX10_reached cX10_reached 5 (some .int)) rmX10_reached h [.ref a0, .int a1] (.inr (some (.int r))) h :=
  z_met hl Y_X10_reached (by decide +kernel) (Nat.le_of_ble_eq_true rfl) (fun X hX E T0 M => b_X10_reached E T0 e M)
abbrev rmX10_reaches : Room := { frames := 3, cells := 0, slots := 0, locals := 65 }
noncomputable def f_X10_reaches (h : PH) (a0 : Nat) (a1 : Int32) (a2 : Int32) : Option (Bool × PH) :=
  (gd h a0 12).bind fun _ =>
  (f_X10_areNone h a0 a1 a2).bind fun p2 =>
  if p2.1 = true then
    some (false, p2.2)
  else
    (gd p2.2 a0 12).bind fun _ =>
    (f_X10_reached p2.2 a0 a1).bind fun p6 =>
    if ¬ ((zshr p6 a2) &&& (1 : Int32)) = (1 : Int32) then
      some (false, p2.2)
    else
      some (true, p2.2)
theorem b_X10_reaches {X : PX} (E : z_E X cX10_reaches RX10 "reaches" 3 rmX10_reaches (some .boolean)) (T0 : z_T0 X) {h : PH} {a0 : Nat} {a1 : Int32} {a2 : Int32} {r : (Bool × PH)} (e : f_X10_reaches h a0 a1 a2 = some r) (M : z_M X rmX10_reaches.cells rmX10_reaches.slots (.inr (some (.int (zb r.1)))) r.2) : WP X 3 0 0 0 [(0, .ref a0), (1, .int a1), (2, .int a2)] [] h := by
  unfold f_X10_reaches at e
  refine z_aload_n E 0 dX10_reaches_0 rfl ?_
  refine z_iload_n E 1 dX10_reaches_1 rfl ?_
  refine z_iload_n E 2 dX10_reaches_2 rfl ?_
  obtain ⟨_, e1, e⟩ := ob e
  obtain ⟨p2, e3, e⟩ := ob e
  refine z_kR2 (st := []) (av := [.ref a0, .int a1, .int a2]) E 0 0 (z_rV (st := []) (av := [.int a1, .int a2]) E Y_X10_areNone k_X10_92 (ci := 12) rfl (c_X10_areNone (z_El E) e3) dX10_reaches_3 e1 rfl rfl (by decide) (by decide) (by decide) (by decide) (Nat.zero_le _)) rfl rfl rfl ?_
  rcases oi e with ⟨c4, e⟩ | ⟨c4, e⟩
  · refine z_if_neT (tgt := 26) E dX10_reaches_6 rfl (zb_t c4) ?_
    refine z_iconst E dX10_reaches_26 ic_0 ?_
    obtain rfl := Option.some.inj e
    exact z_iret E M dX10_reaches_27 rfl rfl rfl rfl (by decide) (by decide)
  · refine z_if_neF (tgt := 26) E dX10_reaches_6 rfl (zb_nt c4) ?_
    refine z_aload_n E 0 dX10_reaches_9 rfl ?_
    refine z_iload_n E 1 dX10_reaches_10 rfl ?_
    obtain ⟨_, e5, e⟩ := ob e
    obtain ⟨p6, e7, e⟩ := ob e
    refine z_kR2 (st := []) (av := [.ref a0, .int a1]) E 0 0 (z_rV (st := []) (av := [.int a1]) E Y_X10_reached k_X10_117 (ci := 12) rfl (c_X10_reached (z_El E) e7) dX10_reaches_11 e5 rfl rfl (by decide) (by decide) (by decide) (by decide) (Nat.zero_le _)) rfl rfl rfl ?_
    refine z_iload_n E 2 dX10_reaches_14 rfl ?_
    refine z_ishr E dX10_reaches_15 ?_
    refine z_iconst E dX10_reaches_16 ic_1 ?_
    refine z_iand E dX10_reaches_17 ?_
    refine z_iconst E dX10_reaches_18 ic_1 ?_
    rcases oi e with ⟨c8, e⟩ | ⟨c8, e⟩
    · refine z_icmp_neT (tgt := 26) E dX10_reaches_19 rfl c8 ?_
      refine z_iconst E dX10_reaches_26 ic_0 ?_
      obtain rfl := Option.some.inj e
      exact z_iret E M dX10_reaches_27 rfl rfl rfl rfl (by decide) (by decide)
    · refine z_icmp_neF (tgt := 26) E dX10_reaches_19 rfl (Classical.not_not.mp c8) ?_
      refine z_iconst E dX10_reaches_22 ic_1 ?_
      refine z_goto (tgt := 27) E dX10_reaches_23 rfl ?_
      obtain rfl := Option.some.inj e
      exact z_iret E M dX10_reaches_27 rfl rfl rfl rfl (by decide) (by decide)
theorem c_X10_reaches {l : Launch} (hl : l.stackTraces = false) {h : PH} {a0 : Nat} {a1 : Int32} {a2 : Int32} {r : (Bool × PH)} (e : f_X10_reaches h a0 a1 a2 = some r) : CMet l yX10_reaches (z_W yX10_reaches cX10_reaches 3 (some .boolean)) rmX10_reaches h [.ref a0, .int a1, .int a2] (.inr (some (.int (zb r.1)))) r.2 :=
  z_met hl Y_X10_reaches (by decide +kernel) (Nat.le_of_ble_eq_true rfl) (fun X hX E T0 M => b_X10_reaches E T0 e M)
abbrev rmX3_close : Room := { frames := 1, cells := 0, slots := 0, locals := 21 }
noncomputable def f_X3_close_L5 : Nat → PH → Nat → Nat → Int32 → Int32 → Int32 → Option Int32
  | 0, _, _, _, _, _, _ => none
  | fu + 1, h, v0, v1, v2, v3, v4 =>
    (rdI h v1 9 0).bind fun x1 =>
    if x1 ≤ v4 then
      some v3
    else
      (rdI h v0 6 2).bind fun x4 =>
      if (f_X9_has x4 v4) = false then
        f_X3_close_L5 fu h v0 v1 v2 v3 (v4 + (1 : Int32))
      else
        (rdR h v0 6 0).bind fun x7 =>
        (alI .int h x7 v4).bind fun x9 =>
        if x9 < v2 then
          f_X3_close_L5 fu h v0 v1 v2 v3 (v4 + (1 : Int32))
        else
          f_X3_close_L5 fu h v0 v1 v2 (v3 ||| (f_X9_bit v4)) (v4 + (1 : Int32))
theorem b_X3_close_L5 {X : PX} (E : z_E X cX3_close RX3 "close" 5 rmX3_close none) (T0 : z_T0 X) {k n : Nat} (hk : k + 0 ≤ rmX3_close.cells) (hn : n + 0 ≤ rmX3_close.slots) {s : Int32} : ∀ (fu : Nat) (h : PH) (v0 : Nat) (v1 : Nat) (v2 : Int32) (v3 : Int32) (v4 : Int32) (e : f_X3_close_L5 fu h v0 v1 v2 v3 v4 = some s) (kk : WP X 5 k n 51 [(0, .ref v0), (3, .int s)] [] h), WP X 5 k n 5 [(0, .ref v0), (1, .ref v1), (2, .int v2), (3, .int v3), (4, .int v4)] [] h := by
  intro fu
  induction fu with
  | zero => intro h v0 v1 v2 v3 v4 e; exact absurd (show (none : Option Int32) = some s from e) (by intro z; cases z)
  | succ fu ih =>
    intro h v0 v1 v2 v3 v4 e kk
    unfold f_X3_close_L5 at e
    refine z_iload E 4 dX3_close_5 rfl ?_
    refine z_aload_n E 1 dX3_close_7 rfl ?_
    obtain ⟨x1, e2, e⟩ := ob e
    refine z_getI E fl_X3_31 dX3_close_8 e2 ?_
    rcases oi e with ⟨c3, e⟩ | ⟨c3, e⟩
    · refine z_icmp_geT (tgt := 51) E dX3_close_11 rfl c3 ?_
      obtain rfl := Option.some.inj e
      exact z_sub [0, 3] rfl kk
    · refine z_icmp_geF (tgt := 51) E dX3_close_11 rfl c3 ?_
      refine z_aload_n E 0 dX3_close_14 rfl ?_
      obtain ⟨x4, e5, e⟩ := ob e
      refine z_getI E fl_X3_25 dX3_close_15 e5 ?_
      refine z_iload E 4 dX3_close_18 rfl ?_
      refine z_kR2 (st := []) (av := [.int x4, .int v4]) E k n (z_rSN (st := []) (av := [.int x4, .int v4]) E Y_X9_has k_X3_47 (c_X9_has (l := z_l X) (h := h) (z_El E) x4 v4) dX3_close_20 rfl rfl (by decide) (by decide) (zk (k := k) (a := 0) hk (by decide)) (zk (k := n) (a := 0) hn (by decide)) (Nat.zero_le _)) rfl rfl rfl ?_
      rcases oi e with ⟨c6, e⟩ | ⟨c6, e⟩
      · refine z_if_eqT (tgt := 45) E dX3_close_23 rfl (zb_f c6) ?_
        refine z_iinc (v := (v4 + (1 : Int32))) (lv2 := [(4, .int (v4 + (1 : Int32))), (0, .ref v0), (1, .ref v1), (2, .int v2), (3, .int v3)]) E 4 dX3_close_45 rfl (congrArg (v4 + ·) ic_1) (by decide) rfl ?_
        refine z_goto (tgt := 5) E dX3_close_48 rfl ?_
        exact z_sub [1, 2, 3, 4, 0] rfl (ih _ _ _ _ _ _ e kk)
      · refine z_if_eqF (tgt := 45) E dX3_close_23 rfl (zb_nf c6) ?_
        refine z_aload_n E 0 dX3_close_26 rfl ?_
        obtain ⟨x7, e8, e⟩ := ob e
        refine z_getR E fl_X3_9 dX3_close_27 e8 ?_
        refine z_iload E 4 dX3_close_30 rfl ?_
        obtain ⟨x9, e10, e⟩ := ob e
        refine z_iald E dX3_close_32 e10 ?_
        refine z_iload_n E 2 dX3_close_33 rfl ?_
        rcases oi e with ⟨c11, e⟩ | ⟨c11, e⟩
        · refine z_icmp_ltT (tgt := 45) E dX3_close_34 rfl c11 ?_
          refine z_iinc (v := (v4 + (1 : Int32))) (lv2 := [(4, .int (v4 + (1 : Int32))), (0, .ref v0), (1, .ref v1), (2, .int v2), (3, .int v3)]) E 4 dX3_close_45 rfl (congrArg (v4 + ·) ic_1) (by decide) rfl ?_
          refine z_goto (tgt := 5) E dX3_close_48 rfl ?_
          exact z_sub [1, 2, 3, 4, 0] rfl (ih _ _ _ _ _ _ e kk)
        · refine z_icmp_ltF (tgt := 45) E dX3_close_34 rfl c11 ?_
          refine z_iload_n E 3 dX3_close_37 rfl ?_
          refine z_iload E 4 dX3_close_38 rfl ?_
          refine z_kR2 (st := [.int v3]) (av := [.int v4]) E k n (z_rSN (st := [.int v3]) (av := [.int v4]) E Y_X9_bit k_X3_40 (c_X9_bit (l := z_l X) (h := h) (z_El E) v4) dX3_close_40 rfl rfl (by decide) (by decide) (zk (k := k) (a := 0) hk (by decide)) (zk (k := n) (a := 0) hn (by decide)) (Nat.le_of_ble_eq_true rfl)) rfl rfl rfl ?_
          refine z_ior E dX3_close_43 ?_
          refine z_istore_n (lv2 := [(3, .int (v3 ||| (f_X9_bit v4))), (0, .ref v0), (1, .ref v1), (2, .int v2), (4, .int v4)]) E dX3_close_44 (by decide) rfl ?_
          refine z_iinc (v := (v4 + (1 : Int32))) (lv2 := [(4, .int (v4 + (1 : Int32))), (3, .int (v3 ||| (f_X9_bit v4))), (0, .ref v0), (1, .ref v1), (2, .int v2)]) E 4 dX3_close_45 rfl (congrArg (v4 + ·) ic_1) (by decide) rfl ?_
          refine z_goto (tgt := 5) E dX3_close_48 rfl ?_
          exact z_sub [2, 3, 4, 1, 0] rfl (ih _ _ _ _ _ _ e kk)
noncomputable def f_X3_close (h : PH) (a0 : Nat) (a1 : Nat) (a2 : Int32) : Option PH :=
  (f_X3_close_L5 FV h a0 a1 a2 (0 : Int32) (0 : Int32)).bind fun s1 =>
  (rdI h a0 6 2).bind fun x3 =>
  (wr h a0 6 2 (.int (x3 &&& (s1 ^^^ (-1 : Int32))))).bind fun h5 =>
  if (f_J6_bitCount_0f7a4 s1) ≤ (1 : Int32) then
    some h5
  else
    (rdI h5 a0 6 3).bind fun x8 =>
    (wr h5 a0 6 3 (.int (x8 + (1 : Int32)))).bind fun h10 =>
    some h10
theorem b_X3_close {X : PX} (E : z_E X cX3_close RX3 "close" 5 rmX3_close none) (T0 : z_T0 X) {h : PH} {a0 : Nat} {a1 : Nat} {a2 : Int32} {r : PH} (e : f_X3_close h a0 a1 a2 = some r) (M : z_M X rmX3_close.cells rmX3_close.slots (.inr none) r) : WP X 5 0 0 0 [(0, .ref a0), (1, .ref a1), (2, .int a2)] [] h := by
  unfold f_X3_close at e
  refine z_iconst E dX3_close_0 ic_0 ?_
  refine z_istore_n (lv2 := [(3, .int (0 : Int32)), (0, .ref a0), (1, .ref a1), (2, .int a2)]) E dX3_close_1 (by decide) rfl ?_
  refine z_iconst E dX3_close_2 ic_0 ?_
  refine z_istore (lv2 := [(4, .int (0 : Int32)), (3, .int (0 : Int32)), (0, .ref a0), (1, .ref a1), (2, .int a2)]) E dX3_close_3 (by decide) rfl ?_
  obtain ⟨s1, e2, e⟩ := ob e
  refine z_sub [2, 3, 4, 1, 0] rfl (b_X3_close_L5 E T0 (by decide) (by decide) FV _ _ _ _ _ _ e2 ?_)
  refine z_aload_n E 0 dX3_close_51 rfl ?_
  refine z_dup E dX3_close_52 rfl ?_
  obtain ⟨x3, e4, e⟩ := ob e
  refine z_getI E fl_X3_25 dX3_close_53 e4 ?_
  refine z_iload_n E 1 dX3_close_56 rfl ?_
  refine z_iconst E dX3_close_57 ic_m1 ?_
  refine z_ixor E dX3_close_58 ?_
  refine z_iand E dX3_close_59 ?_
  obtain ⟨h5, e6, e⟩ := ob e
  refine z_putI E fp_X3_25 (Or.inl rfl) dX3_close_60 e6 ?_
  refine z_iload_n E 1 dX3_close_63 rfl ?_
  refine z_kR2 (st := []) (av := [.int s1]) E 0 0 (z_rS (st := []) (av := [.int s1]) E Y_J6_bitCount_0f7a4 k_X3_61 (c_J6_bitCount_0f7a4 (l := z_l X) (h := h5) (z_El E) s1) dX3_close_64 rfl rfl (by decide) (by decide) (by decide) (by decide) (Nat.zero_le _)) rfl rfl rfl ?_
  refine z_iconst E dX3_close_67 ic_1 ?_
  rcases oi e with ⟨c7, e⟩ | ⟨c7, e⟩
  · refine z_icmp_leT (tgt := 81) E dX3_close_68 rfl c7 ?_
    obtain rfl := Option.some.inj e
    exact z_vret E M dX3_close_81 rfl rfl rfl (by decide) (by decide)
  · refine z_icmp_leF (tgt := 81) E dX3_close_68 rfl c7 ?_
    refine z_aload_n E 0 dX3_close_71 rfl ?_
    refine z_dup E dX3_close_72 rfl ?_
    obtain ⟨x8, e9, e⟩ := ob e
    refine z_getI E fl_X3_28 dX3_close_73 e9 ?_
    refine z_iconst E dX3_close_76 ic_1 ?_
    refine z_iadd E dX3_close_77 ?_
    obtain ⟨h10, e11, e⟩ := ob e
    refine z_putI E fp_X3_28 (Or.inl rfl) dX3_close_78 e11 ?_
    obtain rfl := Option.some.inj e
    exact z_vret E M dX3_close_81 rfl rfl rfl (by decide) (by decide)
theorem c_X3_close {l : Launch} (hl : l.stackTraces = false) {h : PH} {a0 : Nat} {a1 : Nat} {a2 : Int32} {r : PH} (e : f_X3_close h a0 a1 a2 = some r) : CMet l yX3_close (z_W yX3_close cX3_close 5 none) rmX3_close h [.ref a0, .ref a1, .int a2] (.inr none) r :=
  z_met hl Y_X3_close (by decide +kernel) (Nat.le_of_ble_eq_true rfl) (fun X hX E T0 M => b_X3_close E T0 e M)
def rmX3_visit (d : Nat) : Room := { frames := 2 + d, cells := 0, slots := 0, locals := 45 + d * 26 }
theorem rl_X3_visit (d : Nat) : 8 + (7 + 11) + (rmX3_visit d).locals ≤ (rmX3_visit (d + 1)).locals := by
  show 8 + (7 + 11) + (45 + d * 26) ≤ 45 + (d + 1) * 26
  omega
noncomputable def f_X3_visit_L44 (rc : PH → Nat → Nat → Int32 → Int32 → Option (Int32 × PH)) : Nat → PH → Nat → Nat → Int32 → Int32 → Int32 → Int32 → Int32 → Option (Int32 × PH)
  | 0, _, _, _, _, _, _, _, _ => none
  | fu + 1, h, v0, v1, v2, v3, v4, v5, v6 =>
    (rdI h v1 9 0).bind fun x1 =>
    if x1 ≤ v6 then
      some (v5, h)
    else
      (rdR h v1 9 4).bind fun x4 =>
      (alI .int h x4 v2).bind fun x6 =>
      if (f_X9_has x6 v6) = true then
        (rdR h v0 6 0).bind fun x9 =>
        (alI .int h x9 v6).bind fun x11 =>
        if ¬ x11 = 0 then
          (rdI h v0 6 2).bind fun x14 =>
          if (f_X9_has x14 v6) = false then
            f_X3_visit_L44 rc fu h v0 v1 v2 v3 v4 v5 (v6 + (1 : Int32))
          else
            (rdR h v0 6 0).bind fun x17 =>
            (alI .int h x17 v6).bind fun x19 =>
            f_X3_visit_L44 rc fu h v0 v1 v2 v3 v4 (f_J9_min_7cf53 v5 x19) (v6 + (1 : Int32))
        else
          if (10 : Int32) ≤ v3 then
            (rdI h v0 6 2).bind fun x22 =>
            if (f_X9_has x22 v6) = false then
              f_X3_visit_L44 rc fu h v0 v1 v2 v3 v4 v5 (v6 + (1 : Int32))
            else
              (rdR h v0 6 0).bind fun x25 =>
              (alI .int h x25 v6).bind fun x27 =>
              f_X3_visit_L44 rc fu h v0 v1 v2 v3 v4 (f_J9_min_7cf53 v5 x27) (v6 + (1 : Int32))
          else
            (rc h v0 v1 v6 (v3 + (1 : Int32))).bind fun p29 =>
            f_X3_visit_L44 rc fu p29.2 v0 v1 v2 v3 v4 (f_J9_min_7cf53 v5 p29.1) (v6 + (1 : Int32))
      else
        f_X3_visit_L44 rc fu h v0 v1 v2 v3 v4 v5 (v6 + (1 : Int32))
theorem b_X3_visit_L44 {X : PX} {d : Nat} (E : z_E X cX3_visit RX3 "visit" 7 (rmX3_visit (d + 1)) (some .int)) (T0 : z_T0 X) {rc : PH → Nat → Nat → Int32 → Int32 → Option (Int32 × PH)} (HR : ∀ (h : PH) (a0 : Nat) (a1 : Nat) (a2 : Int32) (a3 : Int32) (r : (Int32 × PH)), rc h a0 a1 a2 a3 = some r → CMet (z_l X) yX3_visit (z_W yX3_visit cX3_visit 7 (some .int)) (rmX3_visit d) h [.ref a0, .ref a1, .int a2, .int a3] (.inr (some (.int r.1))) r.2) {k n : Nat} (hk : k + 0 ≤ (rmX3_visit (d + 1)).cells) (hn : n + 0 ≤ (rmX3_visit (d + 1)).slots) {s : (Int32 × PH)} : ∀ (fu : Nat) (h : PH) (v0 : Nat) (v1 : Nat) (v2 : Int32) (v3 : Int32) (v4 : Int32) (v5 : Int32) (v6 : Int32) (e : f_X3_visit_L44 rc fu h v0 v1 v2 v3 v4 v5 v6 = some s) (kk : WP X 7 k n 138 [(0, .ref v0), (1, .ref v1), (4, .int v4), (5, .int s.1)] [] s.2), WP X 7 k n 44 [(0, .ref v0), (1, .ref v1), (2, .int v2), (3, .int v3), (4, .int v4), (5, .int v5), (6, .int v6)] [] h := by
  intro fu
  induction fu with
  | zero => intro h v0 v1 v2 v3 v4 v5 v6 e; exact absurd (show (none : Option (Int32 × PH)) = some s from e) (by intro z; cases z)
  | succ fu ih =>
    intro h v0 v1 v2 v3 v4 v5 v6 e kk
    unfold f_X3_visit_L44 at e
    refine z_iload E 6 dX3_visit_44 rfl ?_
    refine z_aload_n E 1 dX3_visit_46 rfl ?_
    obtain ⟨x1, e2, e⟩ := ob e
    refine z_getI E fl_X3_31 dX3_visit_47 e2 ?_
    rcases oi e with ⟨c3, e⟩ | ⟨c3, e⟩
    · refine z_icmp_geT (tgt := 138) E dX3_visit_50 rfl c3 ?_
      obtain rfl := Option.some.inj e
      exact z_sub [0, 1, 4, 5] rfl kk
    · refine z_icmp_geF (tgt := 138) E dX3_visit_50 rfl c3 ?_
      refine z_aload_n E 1 dX3_visit_53 rfl ?_
      obtain ⟨x4, e5, e⟩ := ob e
      refine z_getR E fl_X3_44 dX3_visit_54 e5 ?_
      refine z_iload_n E 2 dX3_visit_57 rfl ?_
      obtain ⟨x6, e7, e⟩ := ob e
      refine z_iald E dX3_visit_58 e7 ?_
      refine z_iload E 6 dX3_visit_59 rfl ?_
      refine z_kR2 (st := []) (av := [.int x6, .int v6]) E k n (z_rSN (st := []) (av := [.int x6, .int v6]) E Y_X9_has k_X3_47 (c_X9_has (l := z_l X) (h := h) (z_El E) x6 v6) dX3_visit_61 rfl rfl (Nat.le_trans (m := 2) (by decide) (Nat.le_add_right _ _)) (Nat.le_trans (m := 45) (by decide) (Nat.le_add_right _ _)) hk hn (Nat.zero_le _)) rfl rfl rfl ?_
      rcases oi e with ⟨c8, e⟩ | ⟨c8, e⟩
      · refine z_if_neT (tgt := 70) E dX3_visit_64 rfl (zb_t c8) ?_
        refine z_aload_n E 0 dX3_visit_70 rfl ?_
        obtain ⟨x9, e10, e⟩ := ob e
        refine z_getR E fl_X3_9 dX3_visit_71 e10 ?_
        refine z_iload E 6 dX3_visit_74 rfl ?_
        obtain ⟨x11, e12, e⟩ := ob e
        refine z_iald E dX3_visit_76 e12 ?_
        rcases oi e with ⟨c13, e⟩ | ⟨c13, e⟩
        · refine z_if_neT (tgt := 106) E dX3_visit_77 rfl c13 ?_
          refine z_aload_n E 0 dX3_visit_106 rfl ?_
          obtain ⟨x14, e15, e⟩ := ob e
          refine z_getI E fl_X3_25 dX3_visit_107 e15 ?_
          refine z_iload E 6 dX3_visit_110 rfl ?_
          refine z_kR2 (st := []) (av := [.int x14, .int v6]) E k n (z_rSN (st := []) (av := [.int x14, .int v6]) E Y_X9_has k_X3_47 (c_X9_has (l := z_l X) (h := h) (z_El E) x14 v6) dX3_visit_112 rfl rfl (Nat.le_trans (m := 2) (by decide) (Nat.le_add_right _ _)) (Nat.le_trans (m := 45) (by decide) (Nat.le_add_right _ _)) hk hn (Nat.zero_le _)) rfl rfl rfl ?_
          rcases oi e with ⟨c16, e⟩ | ⟨c16, e⟩
          · refine z_if_eqT (tgt := 132) E dX3_visit_115 rfl (zb_f c16) ?_
            refine z_iinc (v := (v6 + (1 : Int32))) (lv2 := [(6, .int (v6 + (1 : Int32))), (0, .ref v0), (1, .ref v1), (2, .int v2), (3, .int v3), (4, .int v4), (5, .int v5)]) E 6 dX3_visit_132 rfl (congrArg (v6 + ·) ic_1) (by decide) rfl ?_
            refine z_goto (tgt := 44) E dX3_visit_135 rfl ?_
            exact z_sub [1, 2, 3, 4, 5, 6, 0] rfl (ih _ _ _ _ _ _ _ _ e kk)
          · refine z_if_eqF (tgt := 132) E dX3_visit_115 rfl (zb_nf c16) ?_
            refine z_iload E 5 dX3_visit_118 rfl ?_
            refine z_aload_n E 0 dX3_visit_120 rfl ?_
            obtain ⟨x17, e18, e⟩ := ob e
            refine z_getR E fl_X3_9 dX3_visit_121 e18 ?_
            refine z_iload E 6 dX3_visit_124 rfl ?_
            obtain ⟨x19, e20, e⟩ := ob e
            refine z_iald E dX3_visit_126 e20 ?_
            refine z_kR2 (st := []) (av := [.int v5, .int x19]) E k n (z_rS (st := []) (av := [.int v5, .int x19]) E Y_J9_min_7cf53 k_X3_51 (c_J9_min_7cf53 (l := z_l X) (h := h) (z_El E) v5 x19) dX3_visit_127 rfl rfl (Nat.le_trans (m := 2) (by decide) (Nat.le_add_right _ _)) (Nat.le_trans (m := 45) (by decide) (Nat.le_add_right _ _)) hk hn (Nat.zero_le _)) rfl rfl rfl ?_
            refine z_istore (lv2 := [(5, .int (f_J9_min_7cf53 v5 x19)), (0, .ref v0), (1, .ref v1), (2, .int v2), (3, .int v3), (4, .int v4), (6, .int v6)]) E dX3_visit_130 (by decide) rfl ?_
            refine z_iinc (v := (v6 + (1 : Int32))) (lv2 := [(6, .int (v6 + (1 : Int32))), (5, .int (f_J9_min_7cf53 v5 x19)), (0, .ref v0), (1, .ref v1), (2, .int v2), (3, .int v3), (4, .int v4)]) E 6 dX3_visit_132 rfl (congrArg (v6 + ·) ic_1) (by decide) rfl ?_
            refine z_goto (tgt := 44) E dX3_visit_135 rfl ?_
            exact z_sub [2, 3, 4, 5, 6, 1, 0] rfl (ih _ _ _ _ _ _ _ _ e kk)
        · refine z_if_neF (tgt := 106) E dX3_visit_77 rfl (Classical.not_not.mp c13) ?_
          refine z_iload_n E 3 dX3_visit_80 rfl ?_
          refine z_bipush E dX3_visit_81 bp_10 ?_
          rcases oi e with ⟨c21, e⟩ | ⟨c21, e⟩
          · refine z_icmp_geT (tgt := 106) E dX3_visit_83 rfl c21 ?_
            refine z_aload_n E 0 dX3_visit_106 rfl ?_
            obtain ⟨x22, e23, e⟩ := ob e
            refine z_getI E fl_X3_25 dX3_visit_107 e23 ?_
            refine z_iload E 6 dX3_visit_110 rfl ?_
            refine z_kR2 (st := []) (av := [.int x22, .int v6]) E k n (z_rSN (st := []) (av := [.int x22, .int v6]) E Y_X9_has k_X3_47 (c_X9_has (l := z_l X) (h := h) (z_El E) x22 v6) dX3_visit_112 rfl rfl (Nat.le_trans (m := 2) (by decide) (Nat.le_add_right _ _)) (Nat.le_trans (m := 45) (by decide) (Nat.le_add_right _ _)) hk hn (Nat.zero_le _)) rfl rfl rfl ?_
            rcases oi e with ⟨c24, e⟩ | ⟨c24, e⟩
            · refine z_if_eqT (tgt := 132) E dX3_visit_115 rfl (zb_f c24) ?_
              refine z_iinc (v := (v6 + (1 : Int32))) (lv2 := [(6, .int (v6 + (1 : Int32))), (0, .ref v0), (1, .ref v1), (2, .int v2), (3, .int v3), (4, .int v4), (5, .int v5)]) E 6 dX3_visit_132 rfl (congrArg (v6 + ·) ic_1) (by decide) rfl ?_
              refine z_goto (tgt := 44) E dX3_visit_135 rfl ?_
              exact z_sub [1, 2, 3, 4, 5, 6, 0] rfl (ih _ _ _ _ _ _ _ _ e kk)
            · refine z_if_eqF (tgt := 132) E dX3_visit_115 rfl (zb_nf c24) ?_
              refine z_iload E 5 dX3_visit_118 rfl ?_
              refine z_aload_n E 0 dX3_visit_120 rfl ?_
              obtain ⟨x25, e26, e⟩ := ob e
              refine z_getR E fl_X3_9 dX3_visit_121 e26 ?_
              refine z_iload E 6 dX3_visit_124 rfl ?_
              obtain ⟨x27, e28, e⟩ := ob e
              refine z_iald E dX3_visit_126 e28 ?_
              refine z_kR2 (st := []) (av := [.int v5, .int x27]) E k n (z_rS (st := []) (av := [.int v5, .int x27]) E Y_J9_min_7cf53 k_X3_51 (c_J9_min_7cf53 (l := z_l X) (h := h) (z_El E) v5 x27) dX3_visit_127 rfl rfl (Nat.le_trans (m := 2) (by decide) (Nat.le_add_right _ _)) (Nat.le_trans (m := 45) (by decide) (Nat.le_add_right _ _)) hk hn (Nat.zero_le _)) rfl rfl rfl ?_
              refine z_istore (lv2 := [(5, .int (f_J9_min_7cf53 v5 x27)), (0, .ref v0), (1, .ref v1), (2, .int v2), (3, .int v3), (4, .int v4), (6, .int v6)]) E dX3_visit_130 (by decide) rfl ?_
              refine z_iinc (v := (v6 + (1 : Int32))) (lv2 := [(6, .int (v6 + (1 : Int32))), (5, .int (f_J9_min_7cf53 v5 x27)), (0, .ref v0), (1, .ref v1), (2, .int v2), (3, .int v3), (4, .int v4)]) E 6 dX3_visit_132 rfl (congrArg (v6 + ·) ic_1) (by decide) rfl ?_
              refine z_goto (tgt := 44) E dX3_visit_135 rfl ?_
              exact z_sub [2, 3, 4, 5, 6, 1, 0] rfl (ih _ _ _ _ _ _ _ _ e kk)
          · refine z_icmp_geF (tgt := 106) E dX3_visit_83 rfl c21 ?_
            refine z_iload E 5 dX3_visit_86 rfl ?_
            refine z_aload_n E 0 dX3_visit_88 rfl ?_
            refine z_aload_n E 1 dX3_visit_89 rfl ?_
            refine z_iload E 6 dX3_visit_90 rfl ?_
            refine z_iload_n E 3 dX3_visit_92 rfl ?_
            refine z_iconst E dX3_visit_93 ic_1 ?_
            refine z_iadd E dX3_visit_94 ?_
            obtain ⟨p29, e30, e⟩ := ob e
            refine z_kR2 (st := [.int v5]) (av := [.ref v0, .ref v1, .int v6, .int (v3 + (1 : Int32))]) E k n (z_rS (st := [.int v5]) (av := [.ref v0, .ref v1, .int v6, .int (v3 + (1 : Int32))]) E Y_X3_visit k_X3_36 (HR _ _ _ _ _ _ e30) dX3_visit_95 rfl rfl (Nat.le_refl _) (rl_X3_visit d) hk hn (Nat.le_of_ble_eq_true rfl)) rfl rfl rfl ?_
            refine z_kR2 (st := []) (av := [.int v5, .int p29.1]) E k n (z_rS (st := []) (av := [.int v5, .int p29.1]) E Y_J9_min_7cf53 k_X3_51 (c_J9_min_7cf53 (l := z_l X) (h := p29.2) (z_El E) v5 p29.1) dX3_visit_98 rfl rfl (Nat.le_trans (m := 2) (by decide) (Nat.le_add_right _ _)) (Nat.le_trans (m := 45) (by decide) (Nat.le_add_right _ _)) hk hn (Nat.zero_le _)) rfl rfl rfl ?_
            refine z_istore (lv2 := [(5, .int (f_J9_min_7cf53 v5 p29.1)), (0, .ref v0), (1, .ref v1), (2, .int v2), (3, .int v3), (4, .int v4), (6, .int v6)]) E dX3_visit_101 (by decide) rfl ?_
            refine z_goto (tgt := 132) E dX3_visit_103 rfl ?_
            refine z_iinc (v := (v6 + (1 : Int32))) (lv2 := [(6, .int (v6 + (1 : Int32))), (5, .int (f_J9_min_7cf53 v5 p29.1)), (0, .ref v0), (1, .ref v1), (2, .int v2), (3, .int v3), (4, .int v4)]) E 6 dX3_visit_132 rfl (congrArg (v6 + ·) ic_1) (by decide) rfl ?_
            refine z_goto (tgt := 44) E dX3_visit_135 rfl ?_
            exact z_sub [2, 3, 4, 5, 6, 1, 0] rfl (ih _ _ _ _ _ _ _ _ e kk)
      · refine z_if_neF (tgt := 70) E dX3_visit_64 rfl (zb_nt c8) ?_
        refine z_goto (tgt := 132) E dX3_visit_67 rfl ?_
        refine z_iinc (v := (v6 + (1 : Int32))) (lv2 := [(6, .int (v6 + (1 : Int32))), (0, .ref v0), (1, .ref v1), (2, .int v2), (3, .int v3), (4, .int v4), (5, .int v5)]) E 6 dX3_visit_132 rfl (congrArg (v6 + ·) ic_1) (by decide) rfl ?_
        refine z_goto (tgt := 44) E dX3_visit_135 rfl ?_
        exact z_sub [1, 2, 3, 4, 5, 6, 0] rfl (ih _ _ _ _ _ _ _ _ e kk)
noncomputable def f_X3_visit_B (rc : PH → Nat → Nat → Int32 → Int32 → Option (Int32 × PH)) (h : PH) (a0 : Nat) (a1 : Nat) (a2 : Int32) (a3 : Int32) : Option (Int32 × PH) :=
  (rdI h a0 6 1).bind fun x1 =>
  (wr h a0 6 1 (.int (x1 + (1 : Int32)))).bind fun h3 =>
  (rdI h3 a0 6 1).bind fun x5 =>
  (rdR h3 a0 6 0).bind fun x7 =>
  (asI .int h3 x7 a2 x5).bind fun h9 =>
  (rdI h9 a0 6 2).bind fun x11 =>
  (wr h9 a0 6 2 (.int (x11 ||| (f_X9_bit a2)))).bind fun h13 =>
  (f_X3_visit_L44 rc FV h13 a0 a1 a2 a3 x5 x5 (0 : Int32)).bind fun s15 =>
  if ¬ s15.1 = x5 then
    some (s15.1, s15.2)
  else
    (gd s15.2 a0 6).bind fun _ =>
    (f_X3_close s15.2 a0 a1 x5).bind fun p19 =>
    some (s15.1, p19)
noncomputable def f_X3_visit : Nat → PH → Nat → Nat → Int32 → Int32 → Option (Int32 × PH)
  | 0, _, _, _, _, _ => none
  | d + 1, h, a0, a1, a2, a3 => f_X3_visit_B (f_X3_visit d) h a0 a1 a2 a3
theorem b_X3_visit {X : PX} {d : Nat} (E : z_E X cX3_visit RX3 "visit" 7 (rmX3_visit (d + 1)) (some .int)) (T0 : z_T0 X) {rc : PH → Nat → Nat → Int32 → Int32 → Option (Int32 × PH)} (HR : ∀ (h : PH) (a0 : Nat) (a1 : Nat) (a2 : Int32) (a3 : Int32) (r : (Int32 × PH)), rc h a0 a1 a2 a3 = some r → CMet (z_l X) yX3_visit (z_W yX3_visit cX3_visit 7 (some .int)) (rmX3_visit d) h [.ref a0, .ref a1, .int a2, .int a3] (.inr (some (.int r.1))) r.2) {h : PH} {a0 : Nat} {a1 : Nat} {a2 : Int32} {a3 : Int32} {r : (Int32 × PH)} (e : f_X3_visit_B rc h a0 a1 a2 a3 = some r) (M : z_M X (rmX3_visit (d + 1)).cells (rmX3_visit (d + 1)).slots (.inr (some (.int r.1))) r.2) : WP X 7 0 0 0 [(0, .ref a0), (1, .ref a1), (2, .int a2), (3, .int a3)] [] h := by
  have hk : 0 + 0 ≤ (rmX3_visit (d + 1)).cells := Nat.zero_le _
  have hn : 0 + 0 ≤ (rmX3_visit (d + 1)).slots := Nat.zero_le _
  unfold f_X3_visit_B at e
  refine z_aload_n E 0 dX3_visit_0 rfl ?_
  refine z_dup E dX3_visit_1 rfl ?_
  obtain ⟨x1, e2, e⟩ := ob e
  refine z_getI E fl_X3_21 dX3_visit_2 e2 ?_
  refine z_iconst E dX3_visit_5 ic_1 ?_
  refine z_iadd E dX3_visit_6 ?_
  obtain ⟨h3, e4, e⟩ := ob e
  refine z_putI E fp_X3_21 (Or.inl rfl) dX3_visit_7 e4 ?_
  refine z_aload_n E 0 dX3_visit_10 rfl ?_
  obtain ⟨x5, e6, e⟩ := ob e
  refine z_getI E fl_X3_21 dX3_visit_11 e6 ?_
  refine z_istore (lv2 := [(4, .int x5), (0, .ref a0), (1, .ref a1), (2, .int a2), (3, .int a3)]) E dX3_visit_14 (by decide) rfl ?_
  refine z_aload_n E 1 dX3_visit_16 rfl ?_
  obtain ⟨x7, e8, e⟩ := ob e
  refine z_getR E fl_X3_9 dX3_visit_17 e8 ?_
  refine z_iload_n E 3 dX3_visit_20 rfl ?_
  refine z_iload E 0 dX3_visit_21 rfl ?_
  obtain ⟨h9, e10, e⟩ := ob e
  refine z_iast E dX3_visit_23 e10 ?_
  refine z_aload_n E 1 dX3_visit_24 rfl ?_
  refine z_dup E dX3_visit_25 rfl ?_
  obtain ⟨x11, e12, e⟩ := ob e
  refine z_getI E fl_X3_25 dX3_visit_26 e12 ?_
  refine z_iload_n E 3 dX3_visit_29 rfl ?_
  refine z_kR2 (st := [.int x11, .ref a0]) (av := [.int a2]) E 0 0 (z_rSN (st := [.int x11, .ref a0]) (av := [.int a2]) E Y_X9_bit k_X3_40 (c_X9_bit (l := z_l X) (h := h9) (z_El E) a2) dX3_visit_30 rfl rfl (Nat.le_trans (m := 2) (by decide) (Nat.le_add_right _ _)) (Nat.le_trans (m := 45) (by decide) (Nat.le_add_right _ _)) hk hn (Nat.le_of_ble_eq_true rfl)) rfl rfl rfl ?_
  refine z_ior E dX3_visit_33 ?_
  obtain ⟨h13, e14, e⟩ := ob e
  refine z_putI E fp_X3_25 (Or.inl rfl) dX3_visit_34 e14 ?_
  refine z_iload E 0 dX3_visit_37 rfl ?_
  refine z_istore (lv2 := [(5, .int x5), (4, .int x5), (0, .ref a0), (1, .ref a1), (2, .int a2), (3, .int a3)]) E dX3_visit_39 (by decide) rfl ?_
  refine z_iconst E dX3_visit_41 ic_0 ?_
  refine z_istore (lv2 := [(6, .int (0 : Int32)), (5, .int x5), (4, .int x5), (0, .ref a0), (1, .ref a1), (2, .int a2), (3, .int a3)]) E dX3_visit_42 (by decide) rfl ?_
  obtain ⟨s15, e16, e⟩ := ob e
  refine z_sub [3, 4, 5, 6, 2, 1, 0] rfl (b_X3_visit_L44 E T0 HR (zk (k := 0) (a := 0) hk (by decide)) (zk (k := 0) (a := 0) hn (by decide)) FV _ _ _ _ _ _ _ _ e16 ?_)
  refine z_iload E 3 dX3_visit_138 rfl ?_
  refine z_iload E 2 dX3_visit_140 rfl ?_
  rcases oi e with ⟨c17, e⟩ | ⟨c17, e⟩
  · refine z_icmp_neT (tgt := 152) E dX3_visit_142 rfl c17 ?_
    refine z_iload E 3 dX3_visit_152 rfl ?_
    obtain rfl := Option.some.inj e
    exact z_iret E M dX3_visit_154 rfl rfl rfl rfl (zk (k := 0) (a := 0) hk (by decide)) (zk (k := 0) (a := 0) hn (by decide))
  · refine z_icmp_neF (tgt := 152) E dX3_visit_142 rfl (Classical.not_not.mp c17) ?_
    refine z_aload_n E 0 dX3_visit_145 rfl ?_
    refine z_aload_n E 1 dX3_visit_146 rfl ?_
    refine z_iload E 2 dX3_visit_147 rfl ?_
    obtain ⟨_, e18, e⟩ := ob e
    obtain ⟨p19, e20, e⟩ := ob e
    refine z_kV2 (st := []) (av := [.ref a0, .ref a1, .int x5]) E 0 0 (z_rV (st := []) (av := [.ref a1, .int x5]) E Y_X3_close k_X3_57 (ci := 6) rfl (c_X3_close (z_El E) e20) dX3_visit_149 e18 rfl rfl (Nat.le_trans (m := 2) (by decide) (Nat.le_add_right _ _)) (Nat.le_trans (m := 45) (by decide) (Nat.le_add_right _ _)) hk hn (Nat.zero_le _)) rfl rfl rfl ?_
    refine z_iload E 3 dX3_visit_152 rfl ?_
    obtain rfl := Option.some.inj e
    exact z_iret E M dX3_visit_154 rfl rfl rfl rfl (zk (k := 0) (a := 0) hk (by decide)) (zk (k := 0) (a := 0) hn (by decide))
theorem c_X3_visit {l : Launch} (hl : l.stackTraces = false) : ∀ {d : Nat} {h : PH} {a0 : Nat} {a1 : Nat} {a2 : Int32} {a3 : Int32} {r : (Int32 × PH)} (e : f_X3_visit d h a0 a1 a2 a3 = some r), CMet l yX3_visit (z_W yX3_visit cX3_visit 7 (some .int)) (rmX3_visit d) h [.ref a0, .ref a1, .int a2, .int a3] (.inr (some (.int r.1))) r.2 := by
  intro d
  induction d with
  | zero => intro h a0 a1 a2 a3 r e; exact absurd (show (none : Option _) = some r from e) (by intro z; cases z)
  | succ d ih =>
    intro h a0 a1 a2 a3 r e
    exact z_met hl Y_X3_visit (by decide +kernel) (Nat.le_of_ble_eq_true rfl) (fun X hX E T0 M => b_X3_visit E T0 (rc := f_X3_visit d) (by intro h a0 a1 a2 a3 r e; rw [hX]; exact ih e) (show f_X3_visit_B (f_X3_visit d) h a0 a1 a2 a3 = some r from e) M)
abbrev rmX3_run : Room := { frames := 15, cells := 0, slots := 0, locals := 383 }
noncomputable def f_X3_run_L25 : Nat → PH → Nat → Nat → Int32 → Option PH
  | 0, _, _, _, _ => none
  | fu + 1, h, v0, v1, v2 =>
    (rdI h v1 9 0).bind fun x1 =>
    if x1 ≤ v2 then
      some h
    else
      (rdR h v0 6 0).bind fun x4 =>
      (alI .int h x4 v2).bind fun x6 =>
      if ¬ x6 = 0 then
        f_X3_run_L25 fu h v0 v1 (v2 + (1 : Int32))
      else
        (f_X3_visit 12 h v0 v1 v2 (1 : Int32)).bind fun p9 =>
        f_X3_run_L25 fu p9.2 v0 v1 (v2 + (1 : Int32))
theorem b_X3_run_L25 {X : PX} (E : z_E X cX3_run RX3 "run" 3 rmX3_run (some .int)) (T0 : z_T0 X) {k n : Nat} (hk : k + 0 ≤ rmX3_run.cells) (hn : n + 0 ≤ rmX3_run.slots) {s : PH} : ∀ (fu : Nat) (h : PH) (v0 : Nat) (v1 : Nat) (v2 : Int32) (e : f_X3_run_L25 fu h v0 v1 v2 = some s) (kk : WP X 3 k n 56 [(0, .ref v0)] [] s), WP X 3 k n 25 [(0, .ref v0), (1, .ref v1), (2, .int v2)] [] h := by
  intro fu
  induction fu with
  | zero => intro h v0 v1 v2 e; exact absurd (show (none : Option PH) = some s from e) (by intro z; cases z)
  | succ fu ih =>
    intro h v0 v1 v2 e kk
    unfold f_X3_run_L25 at e
    refine z_iload_n E 2 dX3_run_25 rfl ?_
    refine z_aload_n E 1 dX3_run_26 rfl ?_
    obtain ⟨x1, e2, e⟩ := ob e
    refine z_getI E fl_X3_31 dX3_run_27 e2 ?_
    rcases oi e with ⟨c3, e⟩ | ⟨c3, e⟩
    · refine z_icmp_geT (tgt := 56) E dX3_run_30 rfl c3 ?_
      obtain rfl := Option.some.inj e
      exact z_sub [0] rfl kk
    · refine z_icmp_geF (tgt := 56) E dX3_run_30 rfl c3 ?_
      refine z_aload_n E 0 dX3_run_33 rfl ?_
      obtain ⟨x4, e5, e⟩ := ob e
      refine z_getR E fl_X3_9 dX3_run_34 e5 ?_
      refine z_iload_n E 2 dX3_run_37 rfl ?_
      obtain ⟨x6, e7, e⟩ := ob e
      refine z_iald E dX3_run_38 e7 ?_
      rcases oi e with ⟨c8, e⟩ | ⟨c8, e⟩
      · refine z_if_neT (tgt := 50) E dX3_run_39 rfl c8 ?_
        refine z_iinc (v := (v2 + (1 : Int32))) (lv2 := [(2, .int (v2 + (1 : Int32))), (0, .ref v0), (1, .ref v1)]) E 2 dX3_run_50 rfl (congrArg (v2 + ·) ic_1) (by decide) rfl ?_
        refine z_goto (tgt := 25) E dX3_run_53 rfl ?_
        exact z_sub [1, 2, 0] rfl (ih _ _ _ _ e kk)
      · refine z_if_neF (tgt := 50) E dX3_run_39 rfl (Classical.not_not.mp c8) ?_
        refine z_aload_n E 0 dX3_run_42 rfl ?_
        refine z_aload_n E 1 dX3_run_43 rfl ?_
        refine z_iload_n E 2 dX3_run_44 rfl ?_
        refine z_iconst E dX3_run_45 ic_1 ?_
        obtain ⟨p9, e10, e⟩ := ob e
        refine z_kR2 (st := []) (av := [.ref v0, .ref v1, .int v2, .int (1 : Int32)]) E k n (z_rS (st := []) (av := [.ref v0, .ref v1, .int v2, .int (1 : Int32)]) E Y_X3_visit k_X3_36 (c_X3_visit (z_El E) e10) dX3_run_46 rfl rfl (by decide) (by decide) (zk (k := k) (a := 0) hk (by decide)) (zk (k := n) (a := 0) hn (by decide)) (Nat.zero_le _)) rfl rfl rfl ?_
        refine z_pop E dX3_run_49 rfl ?_
        refine z_iinc (v := (v2 + (1 : Int32))) (lv2 := [(2, .int (v2 + (1 : Int32))), (0, .ref v0), (1, .ref v1)]) E 2 dX3_run_50 rfl (congrArg (v2 + ·) ic_1) (by decide) rfl ?_
        refine z_goto (tgt := 25) E dX3_run_53 rfl ?_
        exact z_sub [1, 2, 0] rfl (ih _ _ _ _ e kk)
noncomputable def f_X3_run (h : PH) (a0 : Nat) (a1 : Nat) : Option (Int32 × PH) :=
  (rdR h a0 6 0).bind fun x1 =>
  (f_J7_fill_53178 h x1 (0 : Int32)).bind fun p3 =>
  (wr p3 a0 6 1 (.int (0 : Int32))).bind fun h5 =>
  (wr h5 a0 6 2 (.int (0 : Int32))).bind fun h7 =>
  (wr h7 a0 6 3 (.int (0 : Int32))).bind fun h9 =>
  (f_X3_run_L25 FV h9 a0 a1 (0 : Int32)).bind fun s11 =>
  (rdI s11 a0 6 3).bind fun x13 =>
  some (x13, s11)
theorem b_X3_run {X : PX} (E : z_E X cX3_run RX3 "run" 3 rmX3_run (some .int)) (T0 : z_T0 X) {h : PH} {a0 : Nat} {a1 : Nat} {r : (Int32 × PH)} (e : f_X3_run h a0 a1 = some r) (M : z_M X rmX3_run.cells rmX3_run.slots (.inr (some (.int r.1))) r.2) : WP X 3 0 0 0 [(0, .ref a0), (1, .ref a1)] [] h := by
  unfold f_X3_run at e
  refine z_aload_n E 0 dX3_run_0 rfl ?_
  obtain ⟨x1, e2, e⟩ := ob e
  refine z_getR E fl_X3_9 dX3_run_1 e2 ?_
  refine z_iconst E dX3_run_4 ic_0 ?_
  obtain ⟨p3, e4, e⟩ := ob e
  refine z_kV2 (st := []) (av := [.ref x1, .int (0 : Int32)]) E 0 0 (z_rS (st := []) (av := [.ref x1, .int (0 : Int32)]) E Y_J7_fill_53178 k_X3_15 (c_J7_fill_53178 (z_El E) e4) dX3_run_5 rfl rfl (by decide) (by decide) (by decide) (by decide) (Nat.zero_le _)) rfl rfl rfl ?_
  refine z_aload_n E 0 dX3_run_8 rfl ?_
  refine z_iconst E dX3_run_9 ic_0 ?_
  obtain ⟨h5, e6, e⟩ := ob e
  refine z_putI E fp_X3_21 (Or.inl rfl) dX3_run_10 e6 ?_
  refine z_aload_n E 0 dX3_run_13 rfl ?_
  refine z_iconst E dX3_run_14 ic_0 ?_
  obtain ⟨h7, e8, e⟩ := ob e
  refine z_putI E fp_X3_25 (Or.inl rfl) dX3_run_15 e8 ?_
  refine z_aload_n E 0 dX3_run_18 rfl ?_
  refine z_iconst E dX3_run_19 ic_0 ?_
  obtain ⟨h9, e10, e⟩ := ob e
  refine z_putI E fp_X3_28 (Or.inl rfl) dX3_run_20 e10 ?_
  refine z_iconst E dX3_run_23 ic_0 ?_
  refine z_istore_n (lv2 := [(2, .int (0 : Int32)), (0, .ref a0), (1, .ref a1)]) E dX3_run_24 (by decide) rfl ?_
  obtain ⟨s11, e12, e⟩ := ob e
  refine z_sub [1, 2, 0] rfl (b_X3_run_L25 E T0 (by decide) (by decide) FV _ _ _ _ e12 ?_)
  refine z_aload_n E 0 dX3_run_56 rfl ?_
  obtain ⟨x13, e14, e⟩ := ob e
  refine z_getI E fl_X3_28 dX3_run_57 e14 ?_
  obtain rfl := Option.some.inj e
  exact z_iret E M dX3_run_60 rfl rfl rfl rfl (by decide) (by decide)
theorem c_X3_run {l : Launch} (hl : l.stackTraces = false) {h : PH} {a0 : Nat} {a1 : Nat} {r : (Int32 × PH)} (e : f_X3_run h a0 a1 = some r) : CMet l yX3_run (z_W yX3_run cX3_run 3 (some .int)) rmX3_run h [.ref a0, .ref a1] (.inr (some (.int r.1))) r.2 :=
  z_met hl Y_X3_run (by decide +kernel) (Nat.le_of_ble_eq_true rfl) (fun X hX E T0 M => b_X3_run E T0 e M)
abbrev rmX0_countByDepth : Room := { frames := 16, cells := 0, slots := 0, locals := 405 }
noncomputable def f_X0_countByDepth (h : PH) (a0 : Nat) (a1 : Nat) : Option (Int32 × PH) :=
  (rdR h a0 4 4).bind fun x1 =>
  (gd h x1 6).bind fun _ =>
  (f_X3_run h x1 a1).bind fun p4 =>
  some (p4.1, p4.2)
theorem b_X0_countByDepth {X : PX} (E : z_E X cX0_countByDepth RX0 "countByDepth" 2 rmX0_countByDepth (some .int)) (T0 : z_T0 X) {h : PH} {a0 : Nat} {a1 : Nat} {r : (Int32 × PH)} (e : f_X0_countByDepth h a0 a1 = some r) (M : z_M X rmX0_countByDepth.cells rmX0_countByDepth.slots (.inr (some (.int r.1))) r.2) : WP X 2 0 0 0 [(0, .ref a0), (1, .ref a1)] [] h := by
  unfold f_X0_countByDepth at e
  refine z_aload_n E 0 dX0_countByDepth_0 rfl ?_
  obtain ⟨x1, e2, e⟩ := ob e
  refine z_getR E fl_X0_27 dX0_countByDepth_1 e2 ?_
  refine z_aload_n E 1 dX0_countByDepth_4 rfl ?_
  obtain ⟨_, e3, e⟩ := ob e
  obtain ⟨p4, e5, e⟩ := ob e
  refine z_kR2 (st := []) (av := [.ref x1, .ref a1]) E 0 0 (z_rV (st := []) (av := [.ref a1]) E Y_X3_run k_X0_54 (ci := 6) rfl (c_X3_run (z_El E) e5) dX0_countByDepth_5 e3 rfl rfl (by decide) (by decide) (by decide) (by decide) (Nat.zero_le _)) rfl rfl rfl ?_
  obtain rfl := Option.some.inj e
  exact z_iret E M dX0_countByDepth_8 rfl rfl rfl rfl (by decide) (by decide)
theorem c_X0_countByDepth {l : Launch} (hl : l.stackTraces = false) {h : PH} {a0 : Nat} {a1 : Nat} {r : (Int32 × PH)} (e : f_X0_countByDepth h a0 a1 = some r) : CMet l yX0_countByDepth (z_W yX0_countByDepth cX0_countByDepth 2 (some .int)) rmX0_countByDepth h [.ref a0, .ref a1] (.inr (some (.int r.1))) r.2 :=
  z_met hl Y_X0_countByDepth (by decide +kernel) (Nat.le_of_ble_eq_true rfl) (fun X hX E T0 M => b_X0_countByDepth E T0 e M)
abbrev rmX9_circles : Room := { frames := 17, cells := 0, slots := 0, locals := 426 }
noncomputable def f_X9_circles (h : PH) (a0 : Nat) : Option (Int32 × PH) :=
  (rdR h a0 11 4).bind fun x1 =>
  (rdR h a0 11 0).bind fun x3 =>
  (gd h x1 4).bind fun _ =>
  (f_X0_countByDepth h x1 x3).bind fun p6 =>
  some (p6.1, p6.2)
theorem b_X9_circles {X : PX} (E : z_E X cX9_circles RX9 "circles" 1 rmX9_circles (some .int)) (T0 : z_T0 X) {h : PH} {a0 : Nat} {r : (Int32 × PH)} (e : f_X9_circles h a0 = some r) (M : z_M X rmX9_circles.cells rmX9_circles.slots (.inr (some (.int r.1))) r.2) : WP X 1 0 0 0 [(0, .ref a0)] [] h := by
  unfold f_X9_circles at e
  refine z_aload_n E 0 dX9_circles_0 rfl ?_
  obtain ⟨x1, e2, e⟩ := ob e
  refine z_getR E fl_X9_36 dX9_circles_1 e2 ?_
  refine z_aload_n E 0 dX9_circles_4 rfl ?_
  obtain ⟨x3, e4, e⟩ := ob e
  refine z_getR E fl_X9_12 dX9_circles_5 e4 ?_
  obtain ⟨_, e5, e⟩ := ob e
  obtain ⟨p6, e7, e⟩ := ob e
  refine z_kR2 (st := []) (av := [.ref x1, .ref x3]) E 0 0 (z_rV (st := []) (av := [.ref x3]) E Y_X0_countByDepth k_X9_99 (ci := 4) rfl (c_X0_countByDepth (z_El E) e7) dX9_circles_8 e5 rfl rfl (by decide) (by decide) (by decide) (by decide) (Nat.zero_le _)) rfl rfl rfl ?_
  obtain rfl := Option.some.inj e
  exact z_iret E M dX9_circles_11 rfl rfl rfl rfl (by decide) (by decide)
theorem c_X9_circles {l : Launch} (hl : l.stackTraces = false) {h : PH} {a0 : Nat} {r : (Int32 × PH)} (e : f_X9_circles h a0 = some r) : CMet l yX9_circles (z_W yX9_circles cX9_circles 1 (some .int)) rmX9_circles h [.ref a0] (.inr (some (.int r.1))) r.2 :=
  z_met hl Y_X9_circles (by decide +kernel) (Nat.le_of_ble_eq_true rfl) (fun X hX E T0 M => b_X9_circles E T0 e M)
abbrev rmX10_circle : Room := { frames := 2, cells := 0, slots := 0, locals := 46 }
noncomputable def f_X10_circle_L6 : Nat → PH → Nat → Int32 → Int32 → Int32 → Option Int32
  | 0, _, _, _, _, _ => none
  | fu + 1, h, v0, v1, v2, v3 =>
    (rdR h v0 12 0).bind fun x1 =>
    (alI .int h x1 (0 : Int32)).bind fun x3 =>
    if x3 ≤ v3 then
      some v2
    else
      (gd h v0 12).bind fun _ =>
      (f_X10_reached h v0 v1).bind fun p7 =>
      if ¬ ((zshr p7 v3) &&& (1 : Int32)) = (1 : Int32) then
        f_X10_circle_L6 fu h v0 v1 v2 (v3 + (1 : Int32))
      else
        (gd h v0 12).bind fun _ =>
        (f_X10_reached h v0 v3).bind fun p11 =>
        if ¬ ((zshr p11 v1) &&& (1 : Int32)) = (1 : Int32) then
          f_X10_circle_L6 fu h v0 v1 v2 (v3 + (1 : Int32))
        else
          f_X10_circle_L6 fu h v0 v1 (v2 ||| (zshl (1 : Int32) v3)) (v3 + (1 : Int32))
theorem b_X10_circle_L6 {X : PX} (E : z_E X cX10_circle RX10 "circle" 4 rmX10_circle (some .int)) (T0 : z_T0 X) {k n : Nat} (hk : k + 0 ≤ rmX10_circle.cells) (hn : n + 0 ≤ rmX10_circle.slots) {s : Int32} : ∀ (fu : Nat) (h : PH) (v0 : Nat) (v1 : Int32) (v2 : Int32) (v3 : Int32) (e : f_X10_circle_L6 fu h v0 v1 v2 v3 = some s) (kk : WP X 4 k n 54 [(2, .int s)] [] h), WP X 4 k n 6 [(0, .ref v0), (1, .int v1), (2, .int v2), (3, .int v3)] [] h := by
  intro fu
  induction fu with
  | zero => intro h v0 v1 v2 v3 e; exact absurd (show (none : Option Int32) = some s from e) (by intro z; cases z)
  | succ fu ih =>
    intro h v0 v1 v2 v3 e kk
    unfold f_X10_circle_L6 at e
    refine z_iload_n E 3 dX10_circle_6 rfl ?_
    refine z_aload_n E 0 dX10_circle_7 rfl ?_
    obtain ⟨x1, e2, e⟩ := ob e
    refine z_getR E fl_X10_7 dX10_circle_8 e2 ?_
    refine z_iconst E dX10_circle_11 ic_0 ?_
    obtain ⟨x3, e4, e⟩ := ob e
    refine z_iald E dX10_circle_12 e4 ?_
    rcases oi e with ⟨c5, e⟩ | ⟨c5, e⟩
    · refine z_icmp_geT (tgt := 54) E dX10_circle_13 rfl c5 ?_
      obtain rfl := Option.some.inj e
      exact z_sub [2] rfl kk
    · refine z_icmp_geF (tgt := 54) E dX10_circle_13 rfl c5 ?_
      refine z_aload_n E 0 dX10_circle_16 rfl ?_
      refine z_iload_n E 1 dX10_circle_17 rfl ?_
      obtain ⟨_, e6, e⟩ := ob e
      obtain ⟨p7, e8, e⟩ := ob e
      refine z_kR2 (st := []) (av := [.ref v0, .int v1]) E k n (z_rV (st := []) (av := [.int v1]) E Y_X10_reached k_X10_117 (ci := 12) rfl (c_X10_reached (z_El E) e8) dX10_circle_18 e6 rfl rfl (by decide) (by decide) (zk (k := k) (a := 0) hk (by decide)) (zk (k := n) (a := 0) hn (by decide)) (Nat.zero_le _)) rfl rfl rfl ?_
      refine z_iload_n E 3 dX10_circle_21 rfl ?_
      refine z_ishr E dX10_circle_22 ?_
      refine z_iconst E dX10_circle_23 ic_1 ?_
      refine z_iand E dX10_circle_24 ?_
      refine z_iconst E dX10_circle_25 ic_1 ?_
      rcases oi e with ⟨c9, e⟩ | ⟨c9, e⟩
      · refine z_icmp_neT (tgt := 48) E dX10_circle_26 rfl c9 ?_
        refine z_iinc (v := (v3 + (1 : Int32))) (lv2 := [(3, .int (v3 + (1 : Int32))), (0, .ref v0), (1, .int v1), (2, .int v2)]) E 3 dX10_circle_48 rfl (congrArg (v3 + ·) ic_1) (by decide) rfl ?_
        refine z_goto (tgt := 6) E dX10_circle_51 rfl ?_
        exact z_sub [1, 2, 3, 0] rfl (ih _ _ _ _ _ e kk)
      · refine z_icmp_neF (tgt := 48) E dX10_circle_26 rfl (Classical.not_not.mp c9) ?_
        refine z_aload_n E 0 dX10_circle_29 rfl ?_
        refine z_iload_n E 3 dX10_circle_30 rfl ?_
        obtain ⟨_, e10, e⟩ := ob e
        obtain ⟨p11, e12, e⟩ := ob e
        refine z_kR2 (st := []) (av := [.ref v0, .int v3]) E k n (z_rV (st := []) (av := [.int v3]) E Y_X10_reached k_X10_117 (ci := 12) rfl (c_X10_reached (z_El E) e12) dX10_circle_31 e10 rfl rfl (by decide) (by decide) (zk (k := k) (a := 0) hk (by decide)) (zk (k := n) (a := 0) hn (by decide)) (Nat.zero_le _)) rfl rfl rfl ?_
        refine z_iload_n E 1 dX10_circle_34 rfl ?_
        refine z_ishr E dX10_circle_35 ?_
        refine z_iconst E dX10_circle_36 ic_1 ?_
        refine z_iand E dX10_circle_37 ?_
        refine z_iconst E dX10_circle_38 ic_1 ?_
        rcases oi e with ⟨c13, e⟩ | ⟨c13, e⟩
        · refine z_icmp_neT (tgt := 48) E dX10_circle_39 rfl c13 ?_
          refine z_iinc (v := (v3 + (1 : Int32))) (lv2 := [(3, .int (v3 + (1 : Int32))), (0, .ref v0), (1, .int v1), (2, .int v2)]) E 3 dX10_circle_48 rfl (congrArg (v3 + ·) ic_1) (by decide) rfl ?_
          refine z_goto (tgt := 6) E dX10_circle_51 rfl ?_
          exact z_sub [1, 2, 3, 0] rfl (ih _ _ _ _ _ e kk)
        · refine z_icmp_neF (tgt := 48) E dX10_circle_39 rfl (Classical.not_not.mp c13) ?_
          refine z_iload_n E 2 dX10_circle_42 rfl ?_
          refine z_iconst E dX10_circle_43 ic_1 ?_
          refine z_iload_n E 3 dX10_circle_44 rfl ?_
          refine z_ishl E dX10_circle_45 ?_
          refine z_ior E dX10_circle_46 ?_
          refine z_istore_n (lv2 := [(2, .int (v2 ||| (zshl (1 : Int32) v3))), (0, .ref v0), (1, .int v1), (3, .int v3)]) E dX10_circle_47 (by decide) rfl ?_
          refine z_iinc (v := (v3 + (1 : Int32))) (lv2 := [(3, .int (v3 + (1 : Int32))), (2, .int (v2 ||| (zshl (1 : Int32) v3))), (0, .ref v0), (1, .int v1)]) E 3 dX10_circle_48 rfl (congrArg (v3 + ·) ic_1) (by decide) rfl ?_
          refine z_goto (tgt := 6) E dX10_circle_51 rfl ?_
          exact z_sub [2, 3, 1, 0] rfl (ih _ _ _ _ _ e kk)
noncomputable def f_X10_circle (h : PH) (a0 : Nat) (a1 : Int32) : Option Int32 :=
  (f_X10_circle_L6 FV h a0 a1 (zshl (1 : Int32) a1) (0 : Int32)).bind fun s1 =>
  some s1
theorem b_X10_circle {X : PX} (E : z_E X cX10_circle RX10 "circle" 4 rmX10_circle (some .int)) (T0 : z_T0 X) {h : PH} {a0 : Nat} {a1 : Int32} {r : Int32} (e : f_X10_circle h a0 a1 = some r) (M : z_M X rmX10_circle.cells rmX10_circle.slots (.inr (some (.int r))) h) : WP X 4 0 0 0 [(0, .ref a0), (1, .int a1)] [] h := by
  unfold f_X10_circle at e
  refine z_iconst E dX10_circle_0 ic_1 ?_
  refine z_iload_n E 1 dX10_circle_1 rfl ?_
  refine z_ishl E dX10_circle_2 ?_
  refine z_istore_n (lv2 := [(2, .int (zshl (1 : Int32) a1)), (0, .ref a0), (1, .int a1)]) E dX10_circle_3 (by decide) rfl ?_
  refine z_iconst E dX10_circle_4 ic_0 ?_
  refine z_istore_n (lv2 := [(3, .int (0 : Int32)), (2, .int (zshl (1 : Int32) a1)), (0, .ref a0), (1, .int a1)]) E dX10_circle_5 (by decide) rfl ?_
  obtain ⟨s1, e2, e⟩ := ob e
  refine z_sub [2, 3, 1, 0] rfl (b_X10_circle_L6 E T0 (by decide) (by decide) FV _ _ _ _ _ e2 ?_)
  refine z_iload_n E 0 dX10_circle_54 rfl ?_
  obtain rfl := Option.some.inj e
  exact z_iret E M dX10_circle_55 rfl rfl rfl rfl (by decide) (by decide)
theorem c_X10_circle {l : Launch} (hl : l.stackTraces = false) {h : PH} {a0 : Nat} {a1 : Int32} {r : Int32} (e : f_X10_circle h a0 a1 = some r) : CMet l yX10_circle (z_W yX10_circle cX10_circle 4 (some .int)) rmX10_circle h [.ref a0, .int a1] (.inr (some (.int r))) h :=
  z_met hl Y_X10_circle (by decide +kernel) (Nat.le_of_ble_eq_true rfl) (fun X hX E T0 M => b_X10_circle E T0 e M)
