abbrev rmX9_caught : Room := { frames := 0, cells := 0, slots := 0, locals := 0 }
noncomputable def f_X9_caught (h : PH) (a0 : Nat) : Option Int32 :=
  (rdR h a0 11 0).bind fun x1 =>
  (rdI h x1 9 15).bind fun x3 =>
  some x3
theorem b_X9_caught {X : PX} (E : z_E X cX9_caught RX9 "caught" 1 rmX9_caught (some .int)) (T0 : z_T0 X) {h : PH} {a0 : Nat} {r : Int32} (e : f_X9_caught h a0 = some r) (M : z_M X rmX9_caught.cells rmX9_caught.slots (.inr (some (.int r))) h) : WP X 1 0 0 0 [(0, .ref a0)] [] h := by
  unfold f_X9_caught at e
  refine z_aload_n E 0 dX9_caught_0 rfl ?_
  obtain ⟨x1, e2, e⟩ := ob e
  refine z_getR E fl_X9_12 dX9_caught_1 e2 ?_
  obtain ⟨x3, e4, e⟩ := ob e
  refine z_getI E fl_X9_194 dX9_caught_4 e4 ?_
  obtain rfl := Option.some.inj e
  exact z_iret E M dX9_caught_7 rfl rfl rfl rfl (by decide) (by decide)
theorem c_X9_caught {l : Launch} (hl : l.stackTraces = false) {h : PH} {a0 : Nat} {r : Int32} (e : f_X9_caught h a0 = some r) : CMet l yX9_caught (z_W yX9_caught cX9_caught 1 (some .int)) rmX9_caught h [.ref a0] (.inr (some (.int r))) h :=
  z_met hl Y_X9_caught (by decide +kernel) (Nat.le_of_ble_eq_true rfl) (fun X hX E T0 M => b_X9_caught E T0 e M)
abbrev rmX10_caught : Room := { frames := 0, cells := 0, slots := 0, locals := 0 }
noncomputable def f_X10_caught (h : PH) (a0 : Nat) : Option (Int32 × PH) :=
  (wr h a0 12 8 (.int (0 : Int32))).bind fun h1 =>
  (rdR h1 a0 12 0).bind fun x3 =>
  (alI .int h1 x3 (5 : Int32)).bind fun x5 =>
  some (x5, h1)
theorem b_X10_caught {X : PX} (E : z_E X cX10_caught RX10 "caught" 1 rmX10_caught (some .int)) (T0 : z_T0 X) {h : PH} {a0 : Nat} {r : (Int32 × PH)} (e : f_X10_caught h a0 = some r) (M : z_M X rmX10_caught.cells rmX10_caught.slots (.inr (some (.int r.1))) r.2) : WP X 1 0 0 0 [(0, .ref a0)] [] h := by
  unfold f_X10_caught at e
  refine z_aload_n E 0 dX10_caught_0 rfl ?_
  refine z_iconst E dX10_caught_1 ic_0 ?_
  obtain ⟨h1, e2, e⟩ := ob e
  refine z_putI E fp_X10_36 (Or.inl rfl) dX10_caught_2 e2 ?_
  refine z_aload_n E 0 dX10_caught_5 rfl ?_
  obtain ⟨x3, e4, e⟩ := ob e
  refine z_getR E fl_X10_7 dX10_caught_6 e4 ?_
  refine z_iconst E dX10_caught_9 ic_5 ?_
  obtain ⟨x5, e6, e⟩ := ob e
  refine z_iald E dX10_caught_10 e6 ?_
  obtain rfl := Option.some.inj e
  exact z_iret E M dX10_caught_11 rfl rfl rfl rfl (by decide) (by decide)
theorem c_X10_caught {l : Launch} (hl : l.stackTraces = false) {h : PH} {a0 : Nat} {r : (Int32 × PH)} (e : f_X10_caught h a0 = some r) : CMet l yX10_caught (z_W yX10_caught cX10_caught 1 (some .int)) rmX10_caught h [.ref a0] (.inr (some (.int r.1))) r.2 :=
  z_met hl Y_X10_caught (by decide +kernel) (Nat.le_of_ble_eq_true rfl) (fun X hX E T0 M => b_X10_caught E T0 e M)
abbrev rmX9_landed : Room := { frames := 3, cells := 0, slots := 0, locals := 64 }
noncomputable def f_X9_landed (h : PH) (a0 : Nat) : Option Int32 :=
  (rdR h a0 11 0).bind fun x1 =>
  (gd h x1 9).bind fun _ =>
  (f_X7_count h x1 (108 : Int32)).bind fun p4 =>
  some p4
theorem b_X9_landed {X : PX} (E : z_E X cX9_landed RX9 "landed" 1 rmX9_landed (some .int)) (T0 : z_T0 X) {h : PH} {a0 : Nat} {r : Int32} (e : f_X9_landed h a0 = some r) (M : z_M X rmX9_landed.cells rmX9_landed.slots (.inr (some (.int r))) h) : WP X 1 0 0 0 [(0, .ref a0)] [] h := by
  unfold f_X9_landed at e
  refine z_aload_n E 0 dX9_landed_0 rfl ?_
  obtain ⟨x1, e2, e⟩ := ob e
  refine z_getR E fl_X9_12 dX9_landed_1 e2 ?_
  refine z_bipush E dX9_landed_4 bp_108 ?_
  obtain ⟨_, e3, e⟩ := ob e
  obtain ⟨p4, e5, e⟩ := ob e
  refine z_kR2 (st := []) (av := [.ref x1, .int (108 : Int32)]) E 0 0 (z_rV (st := []) (av := [.int (108 : Int32)]) E Y_X7_count k_X9_168 (ci := 9) rfl (c_X7_count (z_El E) e5) dX9_landed_6 e3 rfl rfl (by decide) (by decide) (by decide) (by decide) (Nat.zero_le _)) rfl rfl rfl ?_
  obtain rfl := Option.some.inj e
  exact z_iret E M dX9_landed_9 rfl rfl rfl rfl (by decide) (by decide)
theorem c_X9_landed {l : Launch} (hl : l.stackTraces = false) {h : PH} {a0 : Nat} {r : Int32} (e : f_X9_landed h a0 = some r) : CMet l yX9_landed (z_W yX9_landed cX9_landed 1 (some .int)) rmX9_landed h [.ref a0] (.inr (some (.int r))) h :=
  z_met hl Y_X9_landed (by decide +kernel) (Nat.le_of_ble_eq_true rfl) (fun X hX E T0 M => b_X9_landed E T0 e M)
abbrev rmX10_landed : Room := { frames := 0, cells := 0, slots := 0, locals := 0 }
noncomputable def f_X10_landed (h : PH) (a0 : Nat) : Option (Int32 × PH) :=
  (wr h a0 12 8 (.int (0 : Int32))).bind fun h1 =>
  (rdR h1 a0 12 0).bind fun x3 =>
  (alI .int h1 x3 (6 : Int32)).bind fun x5 =>
  some (x5, h1)
theorem b_X10_landed {X : PX} (E : z_E X cX10_landed RX10 "landed" 1 rmX10_landed (some .int)) (T0 : z_T0 X) {h : PH} {a0 : Nat} {r : (Int32 × PH)} (e : f_X10_landed h a0 = some r) (M : z_M X rmX10_landed.cells rmX10_landed.slots (.inr (some (.int r.1))) r.2) : WP X 1 0 0 0 [(0, .ref a0)] [] h := by
  unfold f_X10_landed at e
  refine z_aload_n E 0 dX10_landed_0 rfl ?_
  refine z_iconst E dX10_landed_1 ic_0 ?_
  obtain ⟨h1, e2, e⟩ := ob e
  refine z_putI E fp_X10_36 (Or.inl rfl) dX10_landed_2 e2 ?_
  refine z_aload_n E 0 dX10_landed_5 rfl ?_
  obtain ⟨x3, e4, e⟩ := ob e
  refine z_getR E fl_X10_7 dX10_landed_6 e4 ?_
  refine z_bipush E dX10_landed_9 bp_6 ?_
  obtain ⟨x5, e6, e⟩ := ob e
  refine z_iald E dX10_landed_11 e6 ?_
  obtain rfl := Option.some.inj e
  exact z_iret E M dX10_landed_12 rfl rfl rfl rfl (by decide) (by decide)
theorem c_X10_landed {l : Launch} (hl : l.stackTraces = false) {h : PH} {a0 : Nat} {r : (Int32 × PH)} (e : f_X10_landed h a0 = some r) : CMet l yX10_landed (z_W yX10_landed cX10_landed 1 (some .int)) rmX10_landed h [.ref a0] (.inr (some (.int r.1))) r.2 :=
  z_met hl Y_X10_landed (by decide +kernel) (Nat.le_of_ble_eq_true rfl) (fun X hX E T0 M => b_X10_landed E T0 e M)
abbrev rmX9_returned : Room := { frames := 0, cells := 0, slots := 0, locals := 0 }
noncomputable def f_X9_returned (h : PH) (a0 : Nat) : Option Int32 :=
  (rdR h a0 11 0).bind fun x1 =>
  (rdI h x1 9 16).bind fun x3 =>
  some x3
theorem b_X9_returned {X : PX} (E : z_E X cX9_returned RX9 "returned" 1 rmX9_returned (some .int)) (T0 : z_T0 X) {h : PH} {a0 : Nat} {r : Int32} (e : f_X9_returned h a0 = some r) (M : z_M X rmX9_returned.cells rmX9_returned.slots (.inr (some (.int r))) h) : WP X 1 0 0 0 [(0, .ref a0)] [] h := by
  unfold f_X9_returned at e
  refine z_aload_n E 0 dX9_returned_0 rfl ?_
  obtain ⟨x1, e2, e⟩ := ob e
  refine z_getR E fl_X9_12 dX9_returned_1 e2 ?_
  obtain ⟨x3, e4, e⟩ := ob e
  refine z_getI E fl_X9_197 dX9_returned_4 e4 ?_
  obtain rfl := Option.some.inj e
  exact z_iret E M dX9_returned_7 rfl rfl rfl rfl (by decide) (by decide)
theorem c_X9_returned {l : Launch} (hl : l.stackTraces = false) {h : PH} {a0 : Nat} {r : Int32} (e : f_X9_returned h a0 = some r) : CMet l yX9_returned (z_W yX9_returned cX9_returned 1 (some .int)) rmX9_returned h [.ref a0] (.inr (some (.int r))) h :=
  z_met hl Y_X9_returned (by decide +kernel) (Nat.le_of_ble_eq_true rfl) (fun X hX E T0 M => b_X9_returned E T0 e M)
abbrev rmX10_returned : Room := { frames := 0, cells := 0, slots := 0, locals := 0 }
noncomputable def f_X10_returned (h : PH) (a0 : Nat) : Option (Int32 × PH) :=
  (wr h a0 12 8 (.int (0 : Int32))).bind fun h1 =>
  (rdR h1 a0 12 0).bind fun x3 =>
  (alI .int h1 x3 (7 : Int32)).bind fun x5 =>
  some (x5, h1)
theorem b_X10_returned {X : PX} (E : z_E X cX10_returned RX10 "returned" 1 rmX10_returned (some .int)) (T0 : z_T0 X) {h : PH} {a0 : Nat} {r : (Int32 × PH)} (e : f_X10_returned h a0 = some r) (M : z_M X rmX10_returned.cells rmX10_returned.slots (.inr (some (.int r.1))) r.2) : WP X 1 0 0 0 [(0, .ref a0)] [] h := by
  unfold f_X10_returned at e
  refine z_aload_n E 0 dX10_returned_0 rfl ?_
  refine z_iconst E dX10_returned_1 ic_0 ?_
  obtain ⟨h1, e2, e⟩ := ob e
  refine z_putI E fp_X10_36 (Or.inl rfl) dX10_returned_2 e2 ?_
  refine z_aload_n E 0 dX10_returned_5 rfl ?_
  obtain ⟨x3, e4, e⟩ := ob e
  refine z_getR E fl_X10_7 dX10_returned_6 e4 ?_
  refine z_bipush E dX10_returned_9 bp_7 ?_
  obtain ⟨x5, e6, e⟩ := ob e
  refine z_iald E dX10_returned_11 e6 ?_
  obtain rfl := Option.some.inj e
  exact z_iret E M dX10_returned_12 rfl rfl rfl rfl (by decide) (by decide)
theorem c_X10_returned {l : Launch} (hl : l.stackTraces = false) {h : PH} {a0 : Nat} {r : (Int32 × PH)} (e : f_X10_returned h a0 = some r) : CMet l yX10_returned (z_W yX10_returned cX10_returned 1 (some .int)) rmX10_returned h [.ref a0] (.inr (some (.int r.1))) r.2 :=
  z_met hl Y_X10_returned (by decide +kernel) (Nat.le_of_ble_eq_true rfl) (fun X hX E T0 M => b_X10_returned E T0 e M)
abbrev rmX9_meanWeight : Room := { frames := 6, cells := 1, slots := 6, locals := 92 }
noncomputable def f_X9_meanWeight (h : PH) (a0 : Nat) : Option (String ⊕ UInt64) :=
  (rdR h a0 11 0).bind fun x1 =>
  (gd h x1 9).bind fun _ =>
  (f_X7_count h x1 (102 : Int32)).bind fun p4 =>
  if ¬ p4 = 0 then
    (rdR h a0 11 0).bind fun x7 =>
    (rdR h a0 11 0).bind fun x9 =>
    (gd h x9 9).bind fun _ =>
    (f_X7_setOf h x9 (102 : Int32)).bind fun p12 =>
    (gd h x7 9).bind fun _ =>
    (f_X7_weightOfAll h x7 p12).bind fun p15 =>
    (n64 (FP.ddiv (FP.i2d p15) (FP.i2d p4))).bind fun x17 =>
    some (Sum.inr x17)
  else
    some (Sum.inl "java/lang/ArithmeticException")
theorem b_X9_meanWeight {X : PX} (E : z_E X cX9_meanWeight RX9 "meanWeight" 2 rmX9_meanWeight (some .double)) (T0 : z_T0 X) {h : PH} {a0 : Nat} {r : (String ⊕ UInt64)} (e : f_X9_meanWeight h a0 = some r) (M : z_M X rmX9_meanWeight.cells rmX9_meanWeight.slots (zoD r) h) : WP X 2 0 0 0 [(0, .ref a0)] [] h := by
  unfold f_X9_meanWeight at e
  refine z_aload_n E 0 dX9_meanWeight_0 rfl ?_
  obtain ⟨x1, e2, e⟩ := ob e
  refine z_getR E fl_X9_12 dX9_meanWeight_1 e2 ?_
  refine z_bipush E dX9_meanWeight_4 bp_102 ?_
  obtain ⟨_, e3, e⟩ := ob e
  obtain ⟨p4, e5, e⟩ := ob e
  refine z_kR2 (st := []) (av := [.ref x1, .int (102 : Int32)]) E 0 0 (z_rV (st := []) (av := [.int (102 : Int32)]) E Y_X7_count k_X9_168 (ci := 9) rfl (c_X7_count (z_El E) e5) dX9_meanWeight_6 e3 rfl rfl (by decide) (by decide) (by decide) (by decide) (Nat.zero_le _)) rfl rfl rfl ?_
  refine z_istore_n (lv2 := [(1, .int p4), (0, .ref a0)]) E dX9_meanWeight_9 (by decide) rfl ?_
  refine z_iload_n E 0 dX9_meanWeight_10 rfl ?_
  rcases oi e with ⟨c6, e⟩ | ⟨c6, e⟩
  · refine z_if_neT (tgt := 24) E dX9_meanWeight_11 rfl c6 ?_
    refine z_aload_n E 1 dX9_meanWeight_24 rfl ?_
    obtain ⟨x7, e8, e⟩ := ob e
    refine z_getR E fl_X9_12 dX9_meanWeight_25 e8 ?_
    refine z_aload_n E 1 dX9_meanWeight_28 rfl ?_
    obtain ⟨x9, e10, e⟩ := ob e
    refine z_getR E fl_X9_12 dX9_meanWeight_29 e10 ?_
    refine z_bipush E dX9_meanWeight_32 bp_102 ?_
    obtain ⟨_, e11, e⟩ := ob e
    obtain ⟨p12, e13, e⟩ := ob e
    refine z_kR2 (st := [.ref x7]) (av := [.ref x9, .int (102 : Int32)]) E 0 0 (z_rV (st := [.ref x7]) (av := [.int (102 : Int32)]) E Y_X7_setOf k_X9_205 (ci := 9) rfl (c_X7_setOf (z_El E) e13) dX9_meanWeight_34 e11 rfl rfl (by decide) (by decide) (by decide) (by decide) (Nat.le_of_ble_eq_true rfl)) rfl rfl rfl ?_
    obtain ⟨_, e14, e⟩ := ob e
    obtain ⟨p15, e16, e⟩ := ob e
    refine z_kR2 (st := []) (av := [.ref x7, .int p12]) E 0 0 (z_rV (st := []) (av := [.int p12]) E Y_X7_weightOfAll k_X9_175 (ci := 9) rfl (c_X7_weightOfAll (z_El E) e16) dX9_meanWeight_37 e14 rfl rfl (by decide) (by decide) (by decide) (by decide) (Nat.zero_le _)) rfl rfl rfl ?_
    refine z_i2d E dX9_meanWeight_40 ?_
    refine z_iload_n E 0 dX9_meanWeight_41 rfl ?_
    refine z_i2d E dX9_meanWeight_42 ?_
    obtain ⟨x17, e18, e⟩ := ob e
    obtain ⟨rfl, e18n⟩ := z_n64 e18
    refine z_ddiv E dX9_meanWeight_43 e18n ?_
    obtain rfl := Option.some.inj e
    exact z_dret E M dX9_meanWeight_44 rfl rfl rfl (by decide) (by decide)
  · refine z_if_neF (tgt := 24) E dX9_meanWeight_11 rfl (Classical.not_not.mp c6) ?_
    obtain rfl := Option.some.inj e
    exact z_throw E 6 th_X9_200_202_204 T0 M dX9_meanWeight_14 dX9_meanWeight_17 (Or.inl ⟨dX9_meanWeight_18, rfl⟩) dX9_meanWeight_20 dX9_meanWeight_23 rfl rfl (by decide) (Nat.le_of_ble_eq_true rfl) (by decide) (by decide) (by decide) (by decide)
theorem c_X9_meanWeight {l : Launch} (hl : l.stackTraces = false) {h : PH} {a0 : Nat} {r : (String ⊕ UInt64)} (e : f_X9_meanWeight h a0 = some r) : CMet l yX9_meanWeight (z_W yX9_meanWeight cX9_meanWeight 2 (some .double)) rmX9_meanWeight h [.ref a0] (zoD r) h :=
  z_met hl Y_X9_meanWeight (by decide +kernel) (Nat.le_of_ble_eq_true rfl) (fun X hX E T0 M => b_X9_meanWeight E T0 e M)
abbrev rmL_meanWeight : Room := { frames := 7, cells := 1, slots := 6, locals := 113 }
noncomputable def f_L_meanWeight (h : PH) (a0 : Nat) (a1 : Nat) : Option (Int32 × PH) :=
  (gd h a0 11).bind fun _ =>
  (f_X9_meanWeight h a0).bind fun p2 =>
  Sum.elim
    (fun E4 =>
    if E4 = "java/lang/ArithmeticException" then
      some ((1 : Int32), h)
    else none)
    (fun y6 =>
    (asD h a1 (0 : Int32) y6).bind fun h8 =>
    some ((0 : Int32), h8)) p2
theorem b_L_meanWeight {X : PX} (E : z_E X cL_meanWeight RL "meanWeight" 3 rmL_meanWeight (some .int)) (TT : z_TT X [(0, 7, 10, 112)]) {h : PH} {a0 : Nat} {a1 : Nat} {r : (Int32 × PH)} (e : f_L_meanWeight h a0 a1 = some r) (M : z_M X rmL_meanWeight.cells rmL_meanWeight.slots (.inr (some (.int r.1))) r.2) : WP X 3 0 0 0 [(0, .ref a0), (1, .ref a1)] [] h := by
  unfold f_L_meanWeight at e
  refine z_aload_n E 1 dL_meanWeight_0 rfl ?_
  refine z_iconst E dL_meanWeight_1 ic_0 ?_
  refine z_aload_n E 0 dL_meanWeight_2 rfl ?_
  obtain ⟨_, e1, e⟩ := ob e
  obtain ⟨p2, e3, e⟩ := ob e
  rcases os e with ⟨E4, c5, e⟩ | ⟨y6, c5, e⟩
  · rcases oi e with ⟨c7, e⟩ | ⟨c7, e⟩
    · subst c7
      refine z_kX2 (st := [.int (0 : Int32), .ref a1]) (av := [.ref a0]) E 1 6 (z_rV (st := [.int (0 : Int32), .ref a1]) (av := []) E Y_X9_meanWeight k_L_108 (ci := 11) rfl (zc_o (c_X9_meanWeight (z_El E) e3) (by rw [c5]; rfl)) dL_meanWeight_3 e1 rfl rfl (by decide) (by decide) (by decide) (by decide) (Nat.le_of_ble_eq_true rfl)) rfl rfl rfl ?_
      refine z_catch (lv2 := [(0, .ref a0), (1, .ref a1)]) E TT 0 (q := (0, 7, 10, 112)) rfl rfl (by decide) cl_L_112 kb_ArithmeticException (fun z hz => nomatch hz) (Or.inl ⟨_, dL_meanWeight_10, rfl, rfl⟩) (by decide) rfl ?_
      refine z_iconst E dL_meanWeight_11 ic_1 ?_
      obtain rfl := Option.some.inj e
      exact z_iret E M dL_meanWeight_12 rfl rfl rfl rfl (by decide) (by decide)
    cases e
  · refine z_kR2 (st := [.int (0 : Int32), .ref a1]) (av := [.ref a0]) E 1 6 (z_rV (st := [.int (0 : Int32), .ref a1]) (av := []) E Y_X9_meanWeight k_L_108 (ci := 11) rfl (zc_o (c_X9_meanWeight (z_El E) e3) (by rw [c5]; rfl)) dL_meanWeight_3 e1 rfl rfl (by decide) (by decide) (by decide) (by decide) (Nat.le_of_ble_eq_true rfl)) rfl rfl rfl ?_
    obtain ⟨h8, e9, e⟩ := ob e
    refine z_dast E dL_meanWeight_6 e9 ?_
    refine z_goto (tgt := 13) E dL_meanWeight_7 rfl ?_
    refine z_iconst E dL_meanWeight_13 ic_0 ?_
    obtain rfl := Option.some.inj e
    exact z_iret E M dL_meanWeight_14 rfl rfl rfl rfl (by decide) (by decide)
theorem c_L_meanWeight {l : Launch} (hl : l.stackTraces = false) {h : PH} {a0 : Nat} {a1 : Nat} {r : (Int32 × PH)} (e : f_L_meanWeight h a0 a1 = some r) : CMet l yL_meanWeight (z_WH yL_meanWeight cL_meanWeight 3 (some .int) [(0, 7, 10, 112)]) rmL_meanWeight h [.ref a0, .ref a1] (.inr (some (.int r.1))) r.2 :=
  z_metH hl Y_L_meanWeight (by decide +kernel) (Nat.le_of_ble_eq_true rfl) (fun X hX E T0 M => b_L_meanWeight E T0 e M)
abbrev rmX10_meanWeight : Room := { frames := 2, cells := 0, slots := 0, locals := 45 }
noncomputable def f_X10_meanWeight (h : PH) (a0 : Nat) : Option (UInt64 × PH) :=
  (gd h a0 12).bind fun _ =>
  (f_X10_those h a0 (0 : Int32)).bind fun p2 =>
  if ¬ p2 = 0 then
    (gd h a0 12).bind fun _ =>
    (f_X10_fails h a0 (0 : Int32)).bind fun p6 =>
    if p6.1 = false then
      (gd p6.2 a0 12).bind fun _ =>
      (f_X10_heavy p6.2 a0 p2).bind fun p10 =>
      (f_X10_bits p2).bind fun p12 =>
      (n64 (FP.ddiv (FP.i2d p10) (FP.i2d p12))).bind fun x14 =>
      some (x14, p6.2)
    else
      some (FP.dconst0, p6.2)
  else
    (gd h a0 12).bind fun _ =>
    (f_X10_fails h a0 (1 : Int32)).bind fun p17 =>
    if p17.1 = false then
      (gd p17.2 a0 12).bind fun _ =>
      (f_X10_heavy p17.2 a0 p2).bind fun p21 =>
      (f_X10_bits p2).bind fun p23 =>
      (n64 (FP.ddiv (FP.i2d p21) (FP.i2d p23))).bind fun x25 =>
      some (x25, p17.2)
    else
      some (FP.dconst0, p17.2)
theorem b_X10_meanWeight {X : PX} (E : z_E X cX10_meanWeight RX10 "meanWeight" 2 rmX10_meanWeight (some .double)) (T0 : z_T0 X) {h : PH} {a0 : Nat} {r : (UInt64 × PH)} (e : f_X10_meanWeight h a0 = some r) (M : z_M X rmX10_meanWeight.cells rmX10_meanWeight.slots (.inr (some (.double r.1))) r.2) : WP X 2 0 0 0 [(0, .ref a0)] [] h := by
  unfold f_X10_meanWeight at e
  refine z_aload_n E 0 dX10_meanWeight_0 rfl ?_
  refine z_iconst E dX10_meanWeight_1 ic_0 ?_
  obtain ⟨_, e1, e⟩ := ob e
  obtain ⟨p2, e3, e⟩ := ob e
  refine z_kR2 (st := []) (av := [.ref a0, .int (0 : Int32)]) E 0 0 (z_rV (st := []) (av := [.int (0 : Int32)]) E Y_X10_those k_X10_142 (ci := 12) rfl (c_X10_those (z_El E) e3) dX10_meanWeight_2 e1 rfl rfl (by decide) (by decide) (by decide) (by decide) (Nat.zero_le _)) rfl rfl rfl ?_
  refine z_istore_n (lv2 := [(1, .int p2), (0, .ref a0)]) E dX10_meanWeight_5 (by decide) rfl ?_
  refine z_aload_n E 1 dX10_meanWeight_6 rfl ?_
  refine z_iload_n E 0 dX10_meanWeight_7 rfl ?_
  rcases oi e with ⟨c4, e⟩ | ⟨c4, e⟩
  · refine z_if_neT (tgt := 15) E dX10_meanWeight_8 rfl c4 ?_
    refine z_iconst E dX10_meanWeight_15 ic_0 ?_
    obtain ⟨_, e5, e⟩ := ob e
    obtain ⟨p6, e7, e⟩ := ob e
    refine z_kR2 (st := []) (av := [.ref a0, .int (0 : Int32)]) E 0 0 (z_rV (st := []) (av := [.int (0 : Int32)]) E Y_X10_fails k_X10_70 (ci := 12) rfl (c_X10_fails (z_El E) e7) dX10_meanWeight_16 e5 rfl rfl (by decide) (by decide) (by decide) (by decide) (Nat.zero_le _)) rfl rfl rfl ?_
    rcases oi e with ⟨c8, e⟩ | ⟨c8, e⟩
    · refine z_if_eqT (tgt := 26) E dX10_meanWeight_19 rfl (zb_f c8) ?_
      refine z_aload_n E 1 dX10_meanWeight_26 rfl ?_
      refine z_iload_n E 0 dX10_meanWeight_27 rfl ?_
      obtain ⟨_, e9, e⟩ := ob e
      obtain ⟨p10, e11, e⟩ := ob e
      refine z_kR2 (st := []) (av := [.ref a0, .int p2]) E 0 0 (z_rV (st := []) (av := [.int p2]) E Y_X10_heavy k_X10_160 (ci := 12) rfl (c_X10_heavy (z_El E) e11) dX10_meanWeight_28 e9 rfl rfl (by decide) (by decide) (by decide) (by decide) (Nat.zero_le _)) rfl rfl rfl ?_
      refine z_i2d E dX10_meanWeight_31 ?_
      refine z_iload_n E 0 dX10_meanWeight_32 rfl ?_
      obtain ⟨p12, e13, e⟩ := ob e
      refine z_kR2 (st := [.double (FP.i2d p10)]) (av := [.int p2]) E 0 0 (z_rS (st := [.double (FP.i2d p10)]) (av := [.int p2]) E Y_X10_bits k_X10_99 (c_X10_bits (z_El E) e13) dX10_meanWeight_33 rfl rfl (by decide) (by decide) (by decide) (by decide) (Nat.le_of_ble_eq_true rfl)) rfl rfl rfl ?_
      refine z_i2d E dX10_meanWeight_36 ?_
      obtain ⟨x14, e15, e⟩ := ob e
      obtain ⟨rfl, e15n⟩ := z_n64 e15
      refine z_ddiv E dX10_meanWeight_37 e15n ?_
      obtain rfl := Option.some.inj e
      exact z_dret E M dX10_meanWeight_38 rfl rfl rfl (by decide) (by decide)
    · refine z_if_eqF (tgt := 26) E dX10_meanWeight_19 rfl (zb_nf c8) ?_
      refine z_dconst0 E dX10_meanWeight_22 ?_
      refine z_goto (tgt := 38) E dX10_meanWeight_23 rfl ?_
      obtain rfl := Option.some.inj e
      exact z_dret E M dX10_meanWeight_38 rfl rfl rfl (by decide) (by decide)
  · refine z_if_neF (tgt := 15) E dX10_meanWeight_8 rfl (Classical.not_not.mp c4) ?_
    refine z_iconst E dX10_meanWeight_11 ic_1 ?_
    refine z_goto (tgt := 16) E dX10_meanWeight_12 rfl ?_
    obtain ⟨_, e16, e⟩ := ob e
    obtain ⟨p17, e18, e⟩ := ob e
    refine z_kR2 (st := []) (av := [.ref a0, .int (1 : Int32)]) E 0 0 (z_rV (st := []) (av := [.int (1 : Int32)]) E Y_X10_fails k_X10_70 (ci := 12) rfl (c_X10_fails (z_El E) e18) dX10_meanWeight_16 e16 rfl rfl (by decide) (by decide) (by decide) (by decide) (Nat.zero_le _)) rfl rfl rfl ?_
    rcases oi e with ⟨c19, e⟩ | ⟨c19, e⟩
    · refine z_if_eqT (tgt := 26) E dX10_meanWeight_19 rfl (zb_f c19) ?_
      refine z_aload_n E 1 dX10_meanWeight_26 rfl ?_
      refine z_iload_n E 0 dX10_meanWeight_27 rfl ?_
      obtain ⟨_, e20, e⟩ := ob e
      obtain ⟨p21, e22, e⟩ := ob e
      refine z_kR2 (st := []) (av := [.ref a0, .int p2]) E 0 0 (z_rV (st := []) (av := [.int p2]) E Y_X10_heavy k_X10_160 (ci := 12) rfl (c_X10_heavy (z_El E) e22) dX10_meanWeight_28 e20 rfl rfl (by decide) (by decide) (by decide) (by decide) (Nat.zero_le _)) rfl rfl rfl ?_
      refine z_i2d E dX10_meanWeight_31 ?_
      refine z_iload_n E 0 dX10_meanWeight_32 rfl ?_
      obtain ⟨p23, e24, e⟩ := ob e
      refine z_kR2 (st := [.double (FP.i2d p21)]) (av := [.int p2]) E 0 0 (z_rS (st := [.double (FP.i2d p21)]) (av := [.int p2]) E Y_X10_bits k_X10_99 (c_X10_bits (z_El E) e24) dX10_meanWeight_33 rfl rfl (by decide) (by decide) (by decide) (by decide) (Nat.le_of_ble_eq_true rfl)) rfl rfl rfl ?_
      refine z_i2d E dX10_meanWeight_36 ?_
      obtain ⟨x25, e26, e⟩ := ob e
      obtain ⟨rfl, e26n⟩ := z_n64 e26
      refine z_ddiv E dX10_meanWeight_37 e26n ?_
      obtain rfl := Option.some.inj e
      exact z_dret E M dX10_meanWeight_38 rfl rfl rfl (by decide) (by decide)
    · refine z_if_eqF (tgt := 26) E dX10_meanWeight_19 rfl (zb_nf c19) ?_
      refine z_dconst0 E dX10_meanWeight_22 ?_
      refine z_goto (tgt := 38) E dX10_meanWeight_23 rfl ?_
      obtain rfl := Option.some.inj e
      exact z_dret E M dX10_meanWeight_38 rfl rfl rfl (by decide) (by decide)
theorem c_X10_meanWeight {l : Launch} (hl : l.stackTraces = false) {h : PH} {a0 : Nat} {r : (UInt64 × PH)} (e : f_X10_meanWeight h a0 = some r) : CMet l yX10_meanWeight (z_W yX10_meanWeight cX10_meanWeight 2 (some .double)) rmX10_meanWeight h [.ref a0] (.inr (some (.double r.1))) r.2 :=
  z_met hl Y_X10_meanWeight (by decide +kernel) (Nat.le_of_ble_eq_true rfl) (fun X hX E T0 M => b_X10_meanWeight E T0 e M)
abbrev rmX9_landedShare : Room := { frames := 6, cells := 1, slots := 6, locals := 92 }
noncomputable def f_X9_landedShare (h : PH) (a0 : Nat) : Option (String ⊕ UInt32) :=
  (rdR h a0 11 0).bind fun x1 =>
  (rdI h x1 9 0).bind fun x3 =>
  if ¬ x3 = 0 then
    (rdR h a0 11 0).bind fun x6 =>
    (gd h x6 9).bind fun _ =>
    (f_X7_count h x6 (108 : Int32)).bind fun p9 =>
    (n32 (FP.fdiv (FP.i2f p9) (FP.i2f x3))).bind fun x11 =>
    some (Sum.inr x11)
  else
    some (Sum.inl "java/lang/ArithmeticException")
theorem b_X9_landedShare {X : PX} (E : z_E X cX9_landedShare RX9 "landedShare" 2 rmX9_landedShare (some .float)) (T0 : z_T0 X) {h : PH} {a0 : Nat} {r : (String ⊕ UInt32)} (e : f_X9_landedShare h a0 = some r) (M : z_M X rmX9_landedShare.cells rmX9_landedShare.slots (zoF r) h) : WP X 2 0 0 0 [(0, .ref a0)] [] h := by
  unfold f_X9_landedShare at e
  refine z_aload_n E 0 dX9_landedShare_0 rfl ?_
  obtain ⟨x1, e2, e⟩ := ob e
  refine z_getR E fl_X9_12 dX9_landedShare_1 e2 ?_
  obtain ⟨x3, e4, e⟩ := ob e
  refine z_getI E fl_X9_65 dX9_landedShare_4 e4 ?_
  refine z_istore_n (lv2 := [(1, .int x3), (0, .ref a0)]) E dX9_landedShare_7 (by decide) rfl ?_
  refine z_iload_n E 0 dX9_landedShare_8 rfl ?_
  rcases oi e with ⟨c5, e⟩ | ⟨c5, e⟩
  · refine z_if_neT (tgt := 22) E dX9_landedShare_9 rfl c5 ?_
    refine z_aload_n E 1 dX9_landedShare_22 rfl ?_
    obtain ⟨x6, e7, e⟩ := ob e
    refine z_getR E fl_X9_12 dX9_landedShare_23 e7 ?_
    refine z_bipush E dX9_landedShare_26 bp_108 ?_
    obtain ⟨_, e8, e⟩ := ob e
    obtain ⟨p9, e10, e⟩ := ob e
    refine z_kR2 (st := []) (av := [.ref x6, .int (108 : Int32)]) E 0 0 (z_rV (st := []) (av := [.int (108 : Int32)]) E Y_X7_count k_X9_168 (ci := 9) rfl (c_X7_count (z_El E) e10) dX9_landedShare_28 e8 rfl rfl (by decide) (by decide) (by decide) (by decide) (Nat.zero_le _)) rfl rfl rfl ?_
    refine z_i2f E dX9_landedShare_31 ?_
    refine z_iload_n E 0 dX9_landedShare_32 rfl ?_
    refine z_i2f E dX9_landedShare_33 ?_
    obtain ⟨x11, e12, e⟩ := ob e
    obtain ⟨rfl, e12n⟩ := z_n32 e12
    refine z_fdiv E dX9_landedShare_34 e12n ?_
    obtain rfl := Option.some.inj e
    exact z_fret E M dX9_landedShare_35 rfl rfl rfl (by decide) (by decide)
  · refine z_if_neF (tgt := 22) E dX9_landedShare_9 rfl (Classical.not_not.mp c5) ?_
    obtain rfl := Option.some.inj e
    exact z_throw E 6 th_X9_200_208_204 T0 M dX9_landedShare_12 dX9_landedShare_15 (Or.inl ⟨dX9_landedShare_16, rfl⟩) dX9_landedShare_18 dX9_landedShare_21 rfl rfl (by decide) (Nat.le_of_ble_eq_true rfl) (by decide) (by decide) (by decide) (by decide)
theorem c_X9_landedShare {l : Launch} (hl : l.stackTraces = false) {h : PH} {a0 : Nat} {r : (String ⊕ UInt32)} (e : f_X9_landedShare h a0 = some r) : CMet l yX9_landedShare (z_W yX9_landedShare cX9_landedShare 2 (some .float)) rmX9_landedShare h [.ref a0] (zoF r) h :=
  z_met hl Y_X9_landedShare (by decide +kernel) (Nat.le_of_ble_eq_true rfl) (fun X hX E T0 M => b_X9_landedShare E T0 e M)
abbrev rmL_landedShare : Room := { frames := 7, cells := 1, slots := 6, locals := 113 }
noncomputable def f_L_landedShare (h : PH) (a0 : Nat) (a1 : Nat) : Option (Int32 × PH) :=
  (gd h a0 11).bind fun _ =>
  (f_X9_landedShare h a0).bind fun p2 =>
  Sum.elim
    (fun E4 =>
    if E4 = "java/lang/ArithmeticException" then
      some ((1 : Int32), h)
    else none)
    (fun y6 =>
    (n64 (FP.f2d y6)).bind fun x8 =>
    (asD h a1 (0 : Int32) x8).bind fun h10 =>
    some ((0 : Int32), h10)) p2
theorem b_L_landedShare {X : PX} (E : z_E X cL_landedShare RL "landedShare" 3 rmL_landedShare (some .int)) (TT : z_TT X [(0, 8, 11, 112)]) {h : PH} {a0 : Nat} {a1 : Nat} {r : (Int32 × PH)} (e : f_L_landedShare h a0 a1 = some r) (M : z_M X rmL_landedShare.cells rmL_landedShare.slots (.inr (some (.int r.1))) r.2) : WP X 3 0 0 0 [(0, .ref a0), (1, .ref a1)] [] h := by
  unfold f_L_landedShare at e
  refine z_aload_n E 1 dL_landedShare_0 rfl ?_
  refine z_iconst E dL_landedShare_1 ic_0 ?_
  refine z_aload_n E 0 dL_landedShare_2 rfl ?_
  obtain ⟨_, e1, e⟩ := ob e
  obtain ⟨p2, e3, e⟩ := ob e
  rcases os e with ⟨E4, c5, e⟩ | ⟨y6, c5, e⟩
  · rcases oi e with ⟨c7, e⟩ | ⟨c7, e⟩
    · subst c7
      refine z_kX2 (st := [.int (0 : Int32), .ref a1]) (av := [.ref a0]) E 1 6 (z_rV (st := [.int (0 : Int32), .ref a1]) (av := []) E Y_X9_landedShare k_L_114 (ci := 11) rfl (zc_o (c_X9_landedShare (z_El E) e3) (by rw [c5]; rfl)) dL_landedShare_3 e1 rfl rfl (by decide) (by decide) (by decide) (by decide) (Nat.le_of_ble_eq_true rfl)) rfl rfl rfl ?_
      refine z_catch (lv2 := [(0, .ref a0), (1, .ref a1)]) E TT 0 (q := (0, 8, 11, 112)) rfl rfl (by decide) cl_L_112 kb_ArithmeticException (fun z hz => nomatch hz) (Or.inl ⟨_, dL_landedShare_11, rfl, rfl⟩) (by decide) rfl ?_
      refine z_iconst E dL_landedShare_12 ic_1 ?_
      obtain rfl := Option.some.inj e
      exact z_iret E M dL_landedShare_13 rfl rfl rfl rfl (by decide) (by decide)
    cases e
  · refine z_kR2 (st := [.int (0 : Int32), .ref a1]) (av := [.ref a0]) E 1 6 (z_rV (st := [.int (0 : Int32), .ref a1]) (av := []) E Y_X9_landedShare k_L_114 (ci := 11) rfl (zc_o (c_X9_landedShare (z_El E) e3) (by rw [c5]; rfl)) dL_landedShare_3 e1 rfl rfl (by decide) (by decide) (by decide) (by decide) (Nat.le_of_ble_eq_true rfl)) rfl rfl rfl ?_
    obtain ⟨x8, e9, e⟩ := ob e
    obtain ⟨rfl, e9n⟩ := z_n64 e9
    refine z_f2d E dL_landedShare_6 e9n ?_
    obtain ⟨h10, e11, e⟩ := ob e
    refine z_dast E dL_landedShare_7 e11 ?_
    refine z_goto (tgt := 14) E dL_landedShare_8 rfl ?_
    refine z_iconst E dL_landedShare_14 ic_0 ?_
    obtain rfl := Option.some.inj e
    exact z_iret E M dL_landedShare_15 rfl rfl rfl rfl (by decide) (by decide)
theorem c_L_landedShare {l : Launch} (hl : l.stackTraces = false) {h : PH} {a0 : Nat} {a1 : Nat} {r : (Int32 × PH)} (e : f_L_landedShare h a0 a1 = some r) : CMet l yL_landedShare (z_WH yL_landedShare cL_landedShare 3 (some .int) [(0, 8, 11, 112)]) rmL_landedShare h [.ref a0, .ref a1] (.inr (some (.int r.1))) r.2 :=
  z_metH hl Y_L_landedShare (by decide +kernel) (Nat.le_of_ble_eq_true rfl) (fun X hX E T0 M => b_L_landedShare E T0 e M)
abbrev rmX10_landedShare : Room := { frames := 2, cells := 0, slots := 0, locals := 45 }
noncomputable def f_X10_landedShare_J15 (h : PH) (v0 : Nat) (w0 : Int32) (w1 : Nat) : Option (UInt32 × PH) :=
  (gd h w1 12).bind fun _ =>
  (f_X10_fails h w1 w0).bind fun p2 =>
  if p2.1 = false then
    (gd p2.2 v0 12).bind fun _ =>
    (f_X10_those p2.2 v0 (2 : Int32)).bind fun p6 =>
    (f_X10_bits p6).bind fun p8 =>
    (rdR p2.2 v0 12 0).bind fun x10 =>
    (alI .int p2.2 x10 (0 : Int32)).bind fun x12 =>
    (n32 (FP.fdiv (FP.i2f p8) (FP.i2f x12))).bind fun x14 =>
    some (x14, p2.2)
  else
    some (FP.fconst0, p2.2)
theorem b_X10_landedShare_J15 {X : PX} (E : z_E X cX10_landedShare RX10 "landedShare" 1 rmX10_landedShare (some .float)) (T0 : z_T0 X) {k n : Nat} (hk : k + 0 ≤ rmX10_landedShare.cells) (hn : n + 0 ≤ rmX10_landedShare.slots) {h : PH} {v0 : Nat} {w0 : Int32} {w1 : Nat} {r : (UInt32 × PH)} (e : f_X10_landedShare_J15 h v0 w0 w1 = some r) (M : z_M X rmX10_landedShare.cells rmX10_landedShare.slots (.inr (some (.float r.1))) r.2) : WP X 1 k n 15 [(0, .ref v0)] [.int w0, .ref w1] h := by
  unfold f_X10_landedShare_J15 at e
  obtain ⟨_, e1, e⟩ := ob e
  obtain ⟨p2, e3, e⟩ := ob e
  refine z_kR2 (st := []) (av := [.ref w1, .int w0]) E k n (z_rV (st := []) (av := [.int w0]) E Y_X10_fails k_X10_70 (ci := 12) rfl (c_X10_fails (z_El E) e3) dX10_landedShare_15 e1 rfl rfl (by decide) (by decide) (zk (k := k) (a := 0) hk (by decide)) (zk (k := n) (a := 0) hn (by decide)) (Nat.zero_le _)) rfl rfl rfl ?_
  rcases oi e with ⟨c4, e⟩ | ⟨c4, e⟩
  · refine z_if_eqT (tgt := 25) E dX10_landedShare_18 rfl (zb_f c4) ?_
    refine z_aload_n E 0 dX10_landedShare_25 rfl ?_
    refine z_iconst E dX10_landedShare_26 ic_2 ?_
    obtain ⟨_, e5, e⟩ := ob e
    obtain ⟨p6, e7, e⟩ := ob e
    refine z_kR2 (st := []) (av := [.ref v0, .int (2 : Int32)]) E k n (z_rV (st := []) (av := [.int (2 : Int32)]) E Y_X10_those k_X10_142 (ci := 12) rfl (c_X10_those (z_El E) e7) dX10_landedShare_27 e5 rfl rfl (by decide) (by decide) (zk (k := k) (a := 0) hk (by decide)) (zk (k := n) (a := 0) hn (by decide)) (Nat.zero_le _)) rfl rfl rfl ?_
    obtain ⟨p8, e9, e⟩ := ob e
    refine z_kR2 (st := []) (av := [.int p6]) E k n (z_rS (st := []) (av := [.int p6]) E Y_X10_bits k_X10_99 (c_X10_bits (z_El E) e9) dX10_landedShare_30 rfl rfl (by decide) (by decide) (zk (k := k) (a := 0) hk (by decide)) (zk (k := n) (a := 0) hn (by decide)) (Nat.zero_le _)) rfl rfl rfl ?_
    refine z_i2f E dX10_landedShare_33 ?_
    refine z_aload_n E 0 dX10_landedShare_34 rfl ?_
    obtain ⟨x10, e11, e⟩ := ob e
    refine z_getR E fl_X10_7 dX10_landedShare_35 e11 ?_
    refine z_iconst E dX10_landedShare_38 ic_0 ?_
    obtain ⟨x12, e13, e⟩ := ob e
    refine z_iald E dX10_landedShare_39 e13 ?_
    refine z_i2f E dX10_landedShare_40 ?_
    obtain ⟨x14, e15, e⟩ := ob e
    obtain ⟨rfl, e15n⟩ := z_n32 e15
    refine z_fdiv E dX10_landedShare_41 e15n ?_
    obtain rfl := Option.some.inj e
    exact z_fret E M dX10_landedShare_42 rfl rfl rfl (zk (k := k) (a := 0) hk (by decide)) (zk (k := n) (a := 0) hn (by decide))
  · refine z_if_eqF (tgt := 25) E dX10_landedShare_18 rfl (zb_nf c4) ?_
    refine z_fconst0 E dX10_landedShare_21 ?_
    refine z_goto (tgt := 42) E dX10_landedShare_22 rfl ?_
    obtain rfl := Option.some.inj e
    exact z_fret E M dX10_landedShare_42 rfl rfl rfl (zk (k := k) (a := 0) hk (by decide)) (zk (k := n) (a := 0) hn (by decide))
noncomputable def f_X10_landedShare (h : PH) (a0 : Nat) : Option (UInt32 × PH) :=
  (rdR h a0 12 0).bind fun x1 =>
  (alI .int h x1 (0 : Int32)).bind fun x3 =>
  if ¬ x3 = 0 then
    f_X10_landedShare_J15 h a0 (0 : Int32) a0
  else
    f_X10_landedShare_J15 h a0 (1 : Int32) a0
theorem b_X10_landedShare {X : PX} (E : z_E X cX10_landedShare RX10 "landedShare" 1 rmX10_landedShare (some .float)) (T0 : z_T0 X) {h : PH} {a0 : Nat} {r : (UInt32 × PH)} (e : f_X10_landedShare h a0 = some r) (M : z_M X rmX10_landedShare.cells rmX10_landedShare.slots (.inr (some (.float r.1))) r.2) : WP X 1 0 0 0 [(0, .ref a0)] [] h := by
  unfold f_X10_landedShare at e
  refine z_aload_n E 0 dX10_landedShare_0 rfl ?_
  refine z_aload_n E 0 dX10_landedShare_1 rfl ?_
  obtain ⟨x1, e2, e⟩ := ob e
  refine z_getR E fl_X10_7 dX10_landedShare_2 e2 ?_
  refine z_iconst E dX10_landedShare_5 ic_0 ?_
  obtain ⟨x3, e4, e⟩ := ob e
  refine z_iald E dX10_landedShare_6 e4 ?_
  rcases oi e with ⟨c5, e⟩ | ⟨c5, e⟩
  · refine z_if_neT (tgt := 14) E dX10_landedShare_7 rfl c5 ?_
    refine z_iconst E dX10_landedShare_14 ic_0 ?_
    exact z_sub [0] rfl (b_X10_landedShare_J15 E T0 (by decide) (by decide) e M)
  · refine z_if_neF (tgt := 14) E dX10_landedShare_7 rfl (Classical.not_not.mp c5) ?_
    refine z_iconst E dX10_landedShare_10 ic_1 ?_
    refine z_goto (tgt := 15) E dX10_landedShare_11 rfl ?_
    exact z_sub [0] rfl (b_X10_landedShare_J15 E T0 (by decide) (by decide) e M)
theorem c_X10_landedShare {l : Launch} (hl : l.stackTraces = false) {h : PH} {a0 : Nat} {r : (UInt32 × PH)} (e : f_X10_landedShare h a0 = some r) : CMet l yX10_landedShare (z_W yX10_landedShare cX10_landedShare 1 (some .float)) rmX10_landedShare h [.ref a0] (.inr (some (.float r.1))) r.2 :=
  z_met hl Y_X10_landedShare (by decide +kernel) (Nat.le_of_ble_eq_true rfl) (fun X hX E T0 M => b_X10_landedShare E T0 e M)
abbrev rmX8_isFull : Room := { frames := 0, cells := 0, slots := 0, locals := 0 }
noncomputable def f_X8_isFull (h : PH) (a0 : Nat) : Option Bool :=
  (rdI h a0 10 1).bind fun x1 =>
  if x1 < (60 : Int32) then
    some false
  else
    some true
theorem b_X8_isFull {X : PX} (E : z_E X cX8_isFull RX8 "isFull" 1 rmX8_isFull (some .boolean)) (T0 : z_T0 X) {h : PH} {a0 : Nat} {r : Bool} (e : f_X8_isFull h a0 = some r) (M : z_M X rmX8_isFull.cells rmX8_isFull.slots (.inr (some (.int (zb r)))) h) : WP X 1 0 0 0 [(0, .ref a0)] [] h := by
  unfold f_X8_isFull at e
  refine z_aload_n E 0 dX8_isFull_0 rfl ?_
  obtain ⟨x1, e2, e⟩ := ob e
  refine z_getI E fl_X8_35 dX8_isFull_1 e2 ?_
  refine z_bipush E dX8_isFull_4 bp_60 ?_
  rcases oi e with ⟨c3, e⟩ | ⟨c3, e⟩
  · refine z_icmp_ltT (tgt := 13) E dX8_isFull_6 rfl c3 ?_
    refine z_iconst E dX8_isFull_13 ic_0 ?_
    obtain rfl := Option.some.inj e
    exact z_iret E M dX8_isFull_14 rfl rfl rfl rfl (by decide) (by decide)
  · refine z_icmp_ltF (tgt := 13) E dX8_isFull_6 rfl c3 ?_
    refine z_iconst E dX8_isFull_9 ic_1 ?_
    refine z_goto (tgt := 14) E dX8_isFull_10 rfl ?_
    obtain rfl := Option.some.inj e
    exact z_iret E M dX8_isFull_14 rfl rfl rfl rfl (by decide) (by decide)
theorem c_X8_isFull {l : Launch} (hl : l.stackTraces = false) {h : PH} {a0 : Nat} {r : Bool} (e : f_X8_isFull h a0 = some r) : CMet l yX8_isFull (z_W yX8_isFull cX8_isFull 1 (some .boolean)) rmX8_isFull h [.ref a0] (.inr (some (.int (zb r)))) h :=
  z_met hl Y_X8_isFull (by decide +kernel) (Nat.le_of_ble_eq_true rfl) (fun X hX E T0 M => b_X8_isFull E T0 e M)
abbrev rmX8_append : Room := { frames := 1, cells := 0, slots := 0, locals := 20 }
noncomputable def f_X8_append (h : PH) (a0 : Nat) (a1 : Int32) : Option PH :=
  (gd h a0 10).bind fun _ =>
  (f_X8_isFull h a0).bind fun p2 =>
  if p2 = true then
    some h
  else
    (rdR h a0 10 0).bind fun x5 =>
    (rdI h a0 10 1).bind fun x7 =>
    (asI .char h x5 x7 a1).bind fun h9 =>
    (rdI h9 a0 10 1).bind fun x11 =>
    (wr h9 a0 10 1 (.int (x11 + (1 : Int32)))).bind fun h13 =>
    some h13
theorem b_X8_append {X : PX} (E : z_E X cX8_append RX8 "append" 2 rmX8_append none) (T0 : z_T0 X) {h : PH} {a0 : Nat} {a1 : Int32} {r : PH} (e : f_X8_append h a0 a1 = some r) (M : z_M X rmX8_append.cells rmX8_append.slots (.inr none) r) : WP X 2 0 0 0 [(0, .ref a0), (1, .int a1)] [] h := by
  unfold f_X8_append at e
  refine z_aload_n E 0 dX8_append_0 rfl ?_
  obtain ⟨_, e1, e⟩ := ob e
  obtain ⟨p2, e3, e⟩ := ob e
  refine z_kR2 (st := []) (av := [.ref a0]) E 0 0 (z_rV (st := []) (av := []) E Y_X8_isFull k_X8_38 (ci := 10) rfl (c_X8_isFull (z_El E) e3) dX8_append_1 e1 rfl rfl (by decide) (by decide) (by decide) (by decide) (Nat.zero_le _)) rfl rfl rfl ?_
  rcases oi e with ⟨c4, e⟩ | ⟨c4, e⟩
  · refine z_if_neT (tgt := 27) E dX8_append_4 rfl (zb_t c4) ?_
    obtain rfl := Option.some.inj e
    exact z_vret E M dX8_append_27 rfl rfl rfl (by decide) (by decide)
  · refine z_if_neF (tgt := 27) E dX8_append_4 rfl (zb_nt c4) ?_
    refine z_aload_n E 0 dX8_append_7 rfl ?_
    obtain ⟨x5, e6, e⟩ := ob e
    refine z_getR E fl_X8_9 dX8_append_8 e6 ?_
    refine z_aload_n E 0 dX8_append_11 rfl ?_
    obtain ⟨x7, e8, e⟩ := ob e
    refine z_getI E fl_X8_35 dX8_append_12 e8 ?_
    refine z_iload_n E 1 dX8_append_15 rfl ?_
    obtain ⟨h9, e10, e⟩ := ob e
    refine z_cast E dX8_append_16 e10 ?_
    refine z_aload_n E 0 dX8_append_17 rfl ?_
    refine z_dup E dX8_append_18 rfl ?_
    obtain ⟨x11, e12, e⟩ := ob e
    refine z_getI E fl_X8_35 dX8_append_19 e12 ?_
    refine z_iconst E dX8_append_22 ic_1 ?_
    refine z_iadd E dX8_append_23 ?_
    obtain ⟨h13, e14, e⟩ := ob e
    refine z_putI E fp_X8_35 (Or.inl rfl) dX8_append_24 e14 ?_
    obtain rfl := Option.some.inj e
    exact z_vret E M dX8_append_27 rfl rfl rfl (by decide) (by decide)
theorem c_X8_append {l : Launch} (hl : l.stackTraces = false) {h : PH} {a0 : Nat} {a1 : Int32} {r : PH} (e : f_X8_append h a0 a1 = some r) : CMet l yX8_append (z_W yX8_append cX8_append 2 none) rmX8_append h [.ref a0, .int a1] (.inr none) r :=
  z_met hl Y_X8_append (by decide +kernel) (Nat.le_of_ble_eq_true rfl) (fun X hX E T0 M => b_X8_append E T0 e M)
abbrev rmX9_feed : Room := { frames := 6, cells := 1, slots := 6, locals := 92 }
noncomputable def f_X9_feed (h : PH) (a0 : Nat) (a1 : Int32) : Option ((String ⊕ Int32) × PH) :=
  (rdR h a0 11 5).bind fun x1 =>
  (gd h x1 10).bind fun _ =>
  (f_X8_isFull h x1).bind fun p4 =>
  if p4 = false then
    (rdR h a0 11 5).bind fun x7 =>
    (gd h x7 10).bind fun _ =>
    (f_X8_append h x7 a1).bind fun p10 =>
    (rdR p10 a0 11 5).bind fun x12 =>
    (rdI p10 x12 10 1).bind fun x14 =>
    some ((Sum.inr x14), p10)
  else
    some ((Sum.inl "java/lang/IllegalStateException"), h)
theorem b_X9_feed {X : PX} (E : z_E X cX9_feed RX9 "feed" 2 rmX9_feed (some .int)) (T0 : z_T0 X) {h : PH} {a0 : Nat} {a1 : Int32} {r : ((String ⊕ Int32) × PH)} (e : f_X9_feed h a0 a1 = some r) (M : z_M X rmX9_feed.cells rmX9_feed.slots (zoI r.1) r.2) : WP X 2 0 0 0 [(0, .ref a0), (1, .int a1)] [] h := by
  unfold f_X9_feed at e
  refine z_aload_n E 0 dX9_feed_0 rfl ?_
  obtain ⟨x1, e2, e⟩ := ob e
  refine z_getR E fl_X9_43 dX9_feed_1 e2 ?_
  obtain ⟨_, e3, e⟩ := ob e
  obtain ⟨p4, e5, e⟩ := ob e
  refine z_kR2 (st := []) (av := [.ref x1]) E 0 0 (z_rV (st := []) (av := []) E Y_X8_isFull k_X9_210 (ci := 10) rfl (c_X8_isFull (z_El E) e5) dX9_feed_4 e3 rfl rfl (by decide) (by decide) (by decide) (by decide) (Nat.zero_le _)) rfl rfl rfl ?_
  rcases oi e with ⟨c6, e⟩ | ⟨c6, e⟩
  · refine z_if_eqT (tgt := 20) E dX9_feed_7 rfl (zb_f c6) ?_
    refine z_aload_n E 0 dX9_feed_20 rfl ?_
    obtain ⟨x7, e8, e⟩ := ob e
    refine z_getR E fl_X9_43 dX9_feed_21 e8 ?_
    refine z_iload_n E 1 dX9_feed_24 rfl ?_
    obtain ⟨_, e9, e⟩ := ob e
    obtain ⟨p10, e11, e⟩ := ob e
    refine z_kV2 (st := []) (av := [.ref x7, .int a1]) E 0 0 (z_rV (st := []) (av := [.int a1]) E Y_X8_append k_X9_219 (ci := 10) rfl (c_X8_append (z_El E) e11) dX9_feed_25 e9 rfl rfl (by decide) (by decide) (by decide) (by decide) (Nat.zero_le _)) rfl rfl rfl ?_
    refine z_aload_n E 0 dX9_feed_28 rfl ?_
    obtain ⟨x12, e13, e⟩ := ob e
    refine z_getR E fl_X9_43 dX9_feed_29 e13 ?_
    obtain ⟨x14, e15, e⟩ := ob e
    refine z_getI E fl_X9_223 dX9_feed_32 e15 ?_
    obtain rfl := Option.some.inj e
    exact z_iret E M dX9_feed_35 rfl rfl rfl rfl (by decide) (by decide)
  · refine z_if_eqF (tgt := 20) E dX9_feed_7 rfl (zb_nf c6) ?_
    obtain rfl := Option.some.inj e
    exact z_throw E 6 th_X9_214_216_218 T0 M dX9_feed_10 dX9_feed_13 (Or.inl ⟨dX9_feed_14, rfl⟩) dX9_feed_16 dX9_feed_19 rfl rfl (by decide) (Nat.le_of_ble_eq_true rfl) (by decide) (by decide) (by decide) (by decide)
theorem c_X9_feed {l : Launch} (hl : l.stackTraces = false) {h : PH} {a0 : Nat} {a1 : Int32} {r : ((String ⊕ Int32) × PH)} (e : f_X9_feed h a0 a1 = some r) : CMet l yX9_feed (z_W yX9_feed cX9_feed 2 (some .int)) rmX9_feed h [.ref a0, .int a1] (zoI r.1) r.2 :=
  z_met hl Y_X9_feed (by decide +kernel) (Nat.le_of_ble_eq_true rfl) (fun X hX E T0 M => b_X9_feed E T0 e M)
abbrev rmL_feed : Room := { frames := 7, cells := 1, slots := 6, locals := 113 }
noncomputable def f_L_feed (h : PH) (a0 : Nat) (a1 : Int32) (a2 : Nat) : Option (Int32 × PH) :=
  (gd h a0 11).bind fun _ =>
  (f_X9_feed h a0 a1).bind fun p2 =>
  Sum.elim
    (fun E4 =>
    if E4 = "java/lang/IllegalStateException" then
      some ((1 : Int32), p2.2)
    else none)
    (fun y6 =>
    (asL p2.2 a2 (0 : Int32) y6.toInt64).bind fun h8 =>
    some ((0 : Int32), h8)) p2.1
theorem b_L_feed {X : PX} (E : z_E X cL_feed RL "feed" 4 rmL_feed (some .int)) (TT : z_TT X [(0, 9, 12, 122)]) {h : PH} {a0 : Nat} {a1 : Int32} {a2 : Nat} {r : (Int32 × PH)} (e : f_L_feed h a0 a1 a2 = some r) (M : z_M X rmL_feed.cells rmL_feed.slots (.inr (some (.int r.1))) r.2) : WP X 4 0 0 0 [(0, .ref a0), (1, .int a1), (2, .ref a2)] [] h := by
  unfold f_L_feed at e
  refine z_aload_n E 2 dL_feed_0 rfl ?_
  refine z_iconst E dL_feed_1 ic_0 ?_
  refine z_aload_n E 0 dL_feed_2 rfl ?_
  refine z_iload_n E 1 dL_feed_3 rfl ?_
  obtain ⟨_, e1, e⟩ := ob e
  obtain ⟨p2, e3, e⟩ := ob e
  rcases os e with ⟨E4, c5, e⟩ | ⟨y6, c5, e⟩
  · rcases oi e with ⟨c7, e⟩ | ⟨c7, e⟩
    · subst c7
      refine z_kX2 (st := [.int (0 : Int32), .ref a2]) (av := [.ref a0, .int a1]) E 1 6 (z_rV (st := [.int (0 : Int32), .ref a2]) (av := [.int a1]) E Y_X9_feed k_L_118 (ci := 11) rfl (zc_o (c_X9_feed (z_El E) e3) (by rw [c5]; rfl)) dL_feed_4 e1 rfl rfl (by decide) (by decide) (by decide) (by decide) (Nat.le_of_ble_eq_true rfl)) rfl rfl rfl ?_
      refine z_catch (lv2 := [(0, .ref a0), (1, .int a1), (2, .ref a2)]) E TT 0 (q := (0, 9, 12, 122)) rfl rfl (by decide) cl_L_122 kb_IllegalStateException (fun z hz => nomatch hz) (Or.inl ⟨_, dL_feed_12, rfl, rfl⟩) (by decide) rfl ?_
      refine z_iconst E dL_feed_13 ic_1 ?_
      obtain rfl := Option.some.inj e
      exact z_iret E M dL_feed_14 rfl rfl rfl rfl (by decide) (by decide)
    cases e
  · refine z_kR2 (st := [.int (0 : Int32), .ref a2]) (av := [.ref a0, .int a1]) E 1 6 (z_rV (st := [.int (0 : Int32), .ref a2]) (av := [.int a1]) E Y_X9_feed k_L_118 (ci := 11) rfl (zc_o (c_X9_feed (z_El E) e3) (by rw [c5]; rfl)) dL_feed_4 e1 rfl rfl (by decide) (by decide) (by decide) (by decide) (Nat.le_of_ble_eq_true rfl)) rfl rfl rfl ?_
    refine z_i2l (v := y6.toInt64) E dL_feed_7 rfl ?_
    obtain ⟨h8, e9, e⟩ := ob e
    refine z_last E dL_feed_8 e9 ?_
    refine z_goto (tgt := 15) E dL_feed_9 rfl ?_
    refine z_iconst E dL_feed_15 ic_0 ?_
    obtain rfl := Option.some.inj e
    exact z_iret E M dL_feed_16 rfl rfl rfl rfl (by decide) (by decide)
theorem c_L_feed {l : Launch} (hl : l.stackTraces = false) {h : PH} {a0 : Nat} {a1 : Int32} {a2 : Nat} {r : (Int32 × PH)} (e : f_L_feed h a0 a1 a2 = some r) : CMet l yL_feed (z_WH yL_feed cL_feed 4 (some .int) [(0, 9, 12, 122)]) rmL_feed h [.ref a0, .int a1, .ref a2] (.inr (some (.int r.1))) r.2 :=
  z_metH hl Y_L_feed (by decide +kernel) (Nat.le_of_ble_eq_true rfl) (fun X hX E T0 M => b_L_feed E T0 e M)
abbrev rmX10_feed : Room := { frames := 1, cells := 0, slots := 0, locals := 21 }
noncomputable def f_X10_feed_J15 (h : PH) (v0 : Nat) (v1 : Int32) (w0 : Int32) (w1 : Nat) : Option (Int32 × PH) :=
  (gd h w1 12).bind fun _ =>
  (f_X10_fails h w1 w0).bind fun p2 =>
  if p2.1 = false then
    (rdR p2.2 v0 12 12).bind fun x5 =>
    (rdI p2.2 v0 12 13).bind fun x7 =>
    (asI .int p2.2 x5 x7 v1).bind fun h9 =>
    (rdI h9 v0 12 13).bind fun x11 =>
    (wr h9 v0 12 13 (.int (x11 + (1 : Int32)))).bind fun h13 =>
    (rdI h13 v0 12 13).bind fun x15 =>
    some (x15, h13)
  else
    some ((0 : Int32), p2.2)
theorem b_X10_feed_J15 {X : PX} (E : z_E X cX10_feed RX10 "feed" 2 rmX10_feed (some .int)) (T0 : z_T0 X) {k n : Nat} (hk : k + 0 ≤ rmX10_feed.cells) (hn : n + 0 ≤ rmX10_feed.slots) {h : PH} {v0 : Nat} {v1 : Int32} {w0 : Int32} {w1 : Nat} {r : (Int32 × PH)} (e : f_X10_feed_J15 h v0 v1 w0 w1 = some r) (M : z_M X rmX10_feed.cells rmX10_feed.slots (.inr (some (.int r.1))) r.2) : WP X 2 k n 15 [(0, .ref v0), (1, .int v1)] [.int w0, .ref w1] h := by
  unfold f_X10_feed_J15 at e
  obtain ⟨_, e1, e⟩ := ob e
  obtain ⟨p2, e3, e⟩ := ob e
  refine z_kR2 (st := []) (av := [.ref w1, .int w0]) E k n (z_rV (st := []) (av := [.int w0]) E Y_X10_fails k_X10_70 (ci := 12) rfl (c_X10_fails (z_El E) e3) dX10_feed_15 e1 rfl rfl (by decide) (by decide) (zk (k := k) (a := 0) hk (by decide)) (zk (k := n) (a := 0) hn (by decide)) (Nat.zero_le _)) rfl rfl rfl ?_
  rcases oi e with ⟨c4, e⟩ | ⟨c4, e⟩
  · refine z_if_eqT (tgt := 23) E dX10_feed_18 rfl (zb_f c4) ?_
    refine z_aload_n E 0 dX10_feed_23 rfl ?_
    obtain ⟨x5, e6, e⟩ := ob e
    refine z_getR E fl_X10_22 dX10_feed_24 e6 ?_
    refine z_aload_n E 0 dX10_feed_27 rfl ?_
    obtain ⟨x7, e8, e⟩ := ob e
    refine z_getI E fl_X10_175 dX10_feed_28 e8 ?_
    refine z_iload_n E 1 dX10_feed_31 rfl ?_
    obtain ⟨h9, e10, e⟩ := ob e
    refine z_iast E dX10_feed_32 e10 ?_
    refine z_aload_n E 0 dX10_feed_33 rfl ?_
    refine z_dup E dX10_feed_34 rfl ?_
    obtain ⟨x11, e12, e⟩ := ob e
    refine z_getI E fl_X10_175 dX10_feed_35 e12 ?_
    refine z_iconst E dX10_feed_38 ic_1 ?_
    refine z_iadd E dX10_feed_39 ?_
    obtain ⟨h13, e14, e⟩ := ob e
    refine z_putI E fp_X10_175 (Or.inl rfl) dX10_feed_40 e14 ?_
    refine z_aload_n E 0 dX10_feed_43 rfl ?_
    obtain ⟨x15, e16, e⟩ := ob e
    refine z_getI E fl_X10_175 dX10_feed_44 e16 ?_
    obtain rfl := Option.some.inj e
    exact z_iret E M dX10_feed_47 rfl rfl rfl rfl (zk (k := k) (a := 0) hk (by decide)) (zk (k := n) (a := 0) hn (by decide))
  · refine z_if_eqF (tgt := 23) E dX10_feed_18 rfl (zb_nf c4) ?_
    refine z_iconst E dX10_feed_21 ic_0 ?_
    obtain rfl := Option.some.inj e
    exact z_iret E M dX10_feed_22 rfl rfl rfl rfl (zk (k := k) (a := 0) hk (by decide)) (zk (k := n) (a := 0) hn (by decide))
noncomputable def f_X10_feed (h : PH) (a0 : Nat) (a1 : Int32) : Option (Int32 × PH) :=
  (rdI h a0 12 13).bind fun x1 =>
  if ¬ x1 = (60 : Int32) then
    f_X10_feed_J15 h a0 a1 (0 : Int32) a0
  else
    f_X10_feed_J15 h a0 a1 (1 : Int32) a0
theorem b_X10_feed {X : PX} (E : z_E X cX10_feed RX10 "feed" 2 rmX10_feed (some .int)) (T0 : z_T0 X) {h : PH} {a0 : Nat} {a1 : Int32} {r : (Int32 × PH)} (e : f_X10_feed h a0 a1 = some r) (M : z_M X rmX10_feed.cells rmX10_feed.slots (.inr (some (.int r.1))) r.2) : WP X 2 0 0 0 [(0, .ref a0), (1, .int a1)] [] h := by
  unfold f_X10_feed at e
  refine z_aload_n E 0 dX10_feed_0 rfl ?_
  refine z_aload_n E 0 dX10_feed_1 rfl ?_
  obtain ⟨x1, e2, e⟩ := ob e
  refine z_getI E fl_X10_175 dX10_feed_2 e2 ?_
  refine z_bipush E dX10_feed_5 bp_60 ?_
  rcases oi e with ⟨c3, e⟩ | ⟨c3, e⟩
  · refine z_icmp_neT (tgt := 14) E dX10_feed_7 rfl c3 ?_
    refine z_iconst E dX10_feed_14 ic_0 ?_
    exact z_sub [0, 1] rfl (b_X10_feed_J15 E T0 (by decide) (by decide) e M)
  · refine z_icmp_neF (tgt := 14) E dX10_feed_7 rfl (Classical.not_not.mp c3) ?_
    refine z_iconst E dX10_feed_10 ic_1 ?_
    refine z_goto (tgt := 15) E dX10_feed_11 rfl ?_
    exact z_sub [0, 1] rfl (b_X10_feed_J15 E T0 (by decide) (by decide) e M)
theorem c_X10_feed {l : Launch} (hl : l.stackTraces = false) {h : PH} {a0 : Nat} {a1 : Int32} {r : (Int32 × PH)} (e : f_X10_feed h a0 a1 = some r) : CMet l yX10_feed (z_W yX10_feed cX10_feed 2 (some .int)) rmX10_feed h [.ref a0, .int a1] (.inr (some (.int r.1))) r.2 :=
  z_met hl Y_X10_feed (by decide +kernel) (Nat.le_of_ble_eq_true rfl) (fun X hX E T0 M => b_X10_feed E T0 e M)
abbrev rmX8_templateOf : Room := { frames := 0, cells := 0, slots := 0, locals := 0 }
noncomputable def f_X8_templateOf (a0 : Int32) : Option Nat :=
  if a0.toInt < 0 ∨ 10 < a0.toInt then
    some 44
  else if a0 = (0 : Int32) then
    some 22
  else if a0 = (1 : Int32) then
    some 24
  else if a0 = (2 : Int32) then
    some 26
  else if a0 = (3 : Int32) then
    some 28
  else if a0 = (4 : Int32) then
    some 30
  else if a0 = (5 : Int32) then
    some 32
  else if a0 = (6 : Int32) then
    some 34
  else if a0 = (7 : Int32) then
    some 36
  else if a0 = (8 : Int32) then
    some 38
  else if a0 = (9 : Int32) then
    some 40
  else if a0 = (10 : Int32) then
    some 42
  else none
theorem b_X8_templateOf {X : PX} (E : z_E X cX8_templateOf RX8 "templateOf" 1 rmX8_templateOf (some (.object "java/lang/String"))) (T0 : z_T0 X) {h : PH} {a0 : Int32} {r : Nat} (e : f_X8_templateOf a0 = some r) (M : z_M X rmX8_templateOf.cells rmX8_templateOf.slots (.inr (some (.ref r))) h) : WP X 1 0 0 0 [(0, .int a0)] [] h := by
  unfold f_X8_templateOf at e
  refine z_iload_n E 0 dX8_templateOf_0 rfl ?_
  rcases oi e with ⟨c1, e⟩ | ⟨c1, e⟩
  · refine z_tableOut (tgt := 93) E dX8_templateOf_1 c1 rfl ?_
    refine z_ldcS E ks_X8_92 dX8_templateOf_93 ?_
    obtain rfl := Option.some.inj e
    exact z_aret E M dX8_templateOf_95 rfl (Or.inl ⟨_, rfl⟩) rfl rfl (by decide) (by decide)
  have c12 := z_sw c1
  rcases oi e with ⟨c13, e⟩ | ⟨c13, e⟩
  · refine z_tableIn (tgt := 60) E dX8_templateOf_1 c12.1 c12.2 (by rw [c13]; rfl) rfl ?_
    refine z_ldcS E ks_X8_70 dX8_templateOf_60 ?_
    obtain rfl := Option.some.inj e
    exact z_aret E M dX8_templateOf_62 rfl (Or.inl ⟨_, rfl⟩) rfl rfl (by decide) (by decide)
  rcases oi e with ⟨c14, e⟩ | ⟨c14, e⟩
  · refine z_tableIn (tgt := 63) E dX8_templateOf_1 c12.1 c12.2 (by rw [c14]; rfl) rfl ?_
    refine z_ldcS E ks_X8_72 dX8_templateOf_63 ?_
    obtain rfl := Option.some.inj e
    exact z_aret E M dX8_templateOf_65 rfl (Or.inl ⟨_, rfl⟩) rfl rfl (by decide) (by decide)
  rcases oi e with ⟨c15, e⟩ | ⟨c15, e⟩
  · refine z_tableIn (tgt := 66) E dX8_templateOf_1 c12.1 c12.2 (by rw [c15]; rfl) rfl ?_
    refine z_ldcS E ks_X8_74 dX8_templateOf_66 ?_
    obtain rfl := Option.some.inj e
    exact z_aret E M dX8_templateOf_68 rfl (Or.inl ⟨_, rfl⟩) rfl rfl (by decide) (by decide)
  rcases oi e with ⟨c16, e⟩ | ⟨c16, e⟩
  · refine z_tableIn (tgt := 69) E dX8_templateOf_1 c12.1 c12.2 (by rw [c16]; rfl) rfl ?_
    refine z_ldcS E ks_X8_76 dX8_templateOf_69 ?_
    obtain rfl := Option.some.inj e
    exact z_aret E M dX8_templateOf_71 rfl (Or.inl ⟨_, rfl⟩) rfl rfl (by decide) (by decide)
  rcases oi e with ⟨c17, e⟩ | ⟨c17, e⟩
  · refine z_tableIn (tgt := 72) E dX8_templateOf_1 c12.1 c12.2 (by rw [c17]; rfl) rfl ?_
    refine z_ldcS E ks_X8_78 dX8_templateOf_72 ?_
    obtain rfl := Option.some.inj e
    exact z_aret E M dX8_templateOf_74 rfl (Or.inl ⟨_, rfl⟩) rfl rfl (by decide) (by decide)
  rcases oi e with ⟨c18, e⟩ | ⟨c18, e⟩
  · refine z_tableIn (tgt := 75) E dX8_templateOf_1 c12.1 c12.2 (by rw [c18]; rfl) rfl ?_
    refine z_ldcS E ks_X8_80 dX8_templateOf_75 ?_
    obtain rfl := Option.some.inj e
    exact z_aret E M dX8_templateOf_77 rfl (Or.inl ⟨_, rfl⟩) rfl rfl (by decide) (by decide)
  rcases oi e with ⟨c19, e⟩ | ⟨c19, e⟩
  · refine z_tableIn (tgt := 78) E dX8_templateOf_1 c12.1 c12.2 (by rw [c19]; rfl) rfl ?_
    refine z_ldcS E ks_X8_82 dX8_templateOf_78 ?_
    obtain rfl := Option.some.inj e
    exact z_aret E M dX8_templateOf_80 rfl (Or.inl ⟨_, rfl⟩) rfl rfl (by decide) (by decide)
  rcases oi e with ⟨c20, e⟩ | ⟨c20, e⟩
  · refine z_tableIn (tgt := 81) E dX8_templateOf_1 c12.1 c12.2 (by rw [c20]; rfl) rfl ?_
    refine z_ldcS E ks_X8_84 dX8_templateOf_81 ?_
    obtain rfl := Option.some.inj e
    exact z_aret E M dX8_templateOf_83 rfl (Or.inl ⟨_, rfl⟩) rfl rfl (by decide) (by decide)
  rcases oi e with ⟨c21, e⟩ | ⟨c21, e⟩
  · refine z_tableIn (tgt := 84) E dX8_templateOf_1 c12.1 c12.2 (by rw [c21]; rfl) rfl ?_
    refine z_ldcS E ks_X8_86 dX8_templateOf_84 ?_
    obtain rfl := Option.some.inj e
    exact z_aret E M dX8_templateOf_86 rfl (Or.inl ⟨_, rfl⟩) rfl rfl (by decide) (by decide)
  rcases oi e with ⟨c22, e⟩ | ⟨c22, e⟩
  · refine z_tableIn (tgt := 87) E dX8_templateOf_1 c12.1 c12.2 (by rw [c22]; rfl) rfl ?_
    refine z_ldcS E ks_X8_88 dX8_templateOf_87 ?_
    obtain rfl := Option.some.inj e
    exact z_aret E M dX8_templateOf_89 rfl (Or.inl ⟨_, rfl⟩) rfl rfl (by decide) (by decide)
  rcases oi e with ⟨c23, e⟩ | ⟨c23, e⟩
  · refine z_tableIn (tgt := 90) E dX8_templateOf_1 c12.1 c12.2 (by rw [c23]; rfl) rfl ?_
    refine z_ldcS E ks_X8_90 dX8_templateOf_90 ?_
    obtain rfl := Option.some.inj e
    exact z_aret E M dX8_templateOf_92 rfl (Or.inl ⟨_, rfl⟩) rfl rfl (by decide) (by decide)
  cases e
theorem c_X8_templateOf {l : Launch} (hl : l.stackTraces = false) {h : PH} {a0 : Int32} {r : Nat} (e : f_X8_templateOf a0 = some r) : CMet l yX8_templateOf (z_W yX8_templateOf cX8_templateOf 1 (some (.object "java/lang/String"))) rmX8_templateOf h [.int a0] (.inr (some (.ref r))) h :=
  z_met hl Y_X8_templateOf (by decide +kernel) (Nat.le_of_ble_eq_true rfl) (fun X hX E T0 M => b_X8_templateOf E T0 e M)
abbrev rmJ0_coder_7d493 : Room := { frames := 0, cells := 0, slots := 0, locals := 0 }
noncomputable def f_J0_coder_7d493 (h : PH) (a0 : Nat) : Option Int32 :=
  (rdI h a0 0 1).bind fun x1 =>
  (zn .byte x1).bind fun x3 =>
  some x3
theorem b_J0_coder_7d493 {X : PX} (E : z_E X cJ0_coder_7d493 RJ0 "coder" 1 rmJ0_coder_7d493 (some .byte)) (T0 : z_T0 X) {h : PH} {a0 : Nat} {r : Int32} (e : f_J0_coder_7d493 h a0 = some r) (M : z_M X rmJ0_coder_7d493.cells rmJ0_coder_7d493.slots (.inr (some (.int r))) h) : WP X 1 0 0 0 [(0, .ref a0)] [] h := by
  unfold f_J0_coder_7d493 at e
  refine z_gets E (List.mem_of_getElem? (i := 1) rfl) gs_J0_38 dJ0_coder_7d493_0 ?_
  refine z_if_eqF (tgt := 13) E dJ0_coder_7d493_3 rfl (by decide) ?_
  refine z_aload_n E 0 dJ0_coder_7d493_6 rfl ?_
  obtain ⟨x1, e2, e⟩ := ob e
  refine z_getI E fl_J0_15 dJ0_coder_7d493_7 e2 ?_
  refine z_goto (tgt := 14) E dJ0_coder_7d493_10 rfl ?_
  obtain ⟨x3, e4, e⟩ := ob e
  obtain ⟨x3a, x3b, -⟩ := z_zn e4
  obtain rfl := Option.some.inj e
  exact z_iret E M dJ0_coder_7d493_14 rfl x3b (congrArg (fun z => Sum.inr (some (Value.int z))) x3a) rfl (by decide) (by decide)
theorem c_J0_coder_7d493 {l : Launch} (hl : l.stackTraces = false) {h : PH} {a0 : Nat} {r : Int32} (e : f_J0_coder_7d493 h a0 = some r) : CMet l yJ0_coder_7d493 (z_W yJ0_coder_7d493 cJ0_coder_7d493 1 (some .byte)) rmJ0_coder_7d493 h [.ref a0] (.inr (some (.int r))) h :=
  z_met hl Y_J0_coder_7d493 (by decide +kernel) (Nat.le_of_ble_eq_true rfl) (fun X hX E T0 M => b_J0_coder_7d493 E T0 e M)
abbrev rmJ0_length_8abf5 : Room := { frames := 1, cells := 0, slots := 0, locals := 20 }
noncomputable def f_J0_length_8abf5 (h : PH) (a0 : Nat) : Option Int32 :=
  (rdR h a0 0 0).bind fun x1 =>
  (alA .byte h x1).bind fun x3 =>
  (gd h a0 0).bind fun _ =>
  (f_J0_coder_7d493 h a0).bind fun p6 =>
  some (zshr x3 p6)
theorem b_J0_length_8abf5 {X : PX} (E : z_E X cJ0_length_8abf5 RJ0 "length" 1 rmJ0_length_8abf5 (some .int)) (T0 : z_T0 X) {h : PH} {a0 : Nat} {r : Int32} (e : f_J0_length_8abf5 h a0 = some r) (M : z_M X rmJ0_length_8abf5.cells rmJ0_length_8abf5.slots (.inr (some (.int r))) h) : WP X 1 0 0 0 [(0, .ref a0)] [] h := by
  unfold f_J0_length_8abf5 at e
  refine z_aload_n E 0 dJ0_length_8abf5_0 rfl ?_
  obtain ⟨x1, e2, e⟩ := ob e
  refine z_getR E fl_J0_9 dJ0_length_8abf5_1 e2 ?_
  obtain ⟨x3, e4, e⟩ := ob e
  refine z_alenA E 2 (fun _ => rfl) dJ0_length_8abf5_4 e4 ?_
  refine z_aload_n E 0 dJ0_length_8abf5_5 rfl ?_
  obtain ⟨_, e5, e⟩ := ob e
  obtain ⟨p6, e7, e⟩ := ob e
  refine z_kR2 (st := [.int x3]) (av := [.ref a0]) E 0 0 (z_rV (st := [.int x3]) (av := []) E Y_J0_coder_7d493 k_J0_335 (ci := 0) rfl (c_J0_coder_7d493 (z_El E) e7) dJ0_length_8abf5_6 e5 rfl rfl (by decide) (by decide) (by decide) (by decide) (Nat.le_of_ble_eq_true rfl)) rfl rfl rfl ?_
  refine z_ishr E dJ0_length_8abf5_9 ?_
  obtain rfl := Option.some.inj e
  exact z_iret E M dJ0_length_8abf5_10 rfl rfl rfl rfl (by decide) (by decide)
theorem c_J0_length_8abf5 {l : Launch} (hl : l.stackTraces = false) {h : PH} {a0 : Nat} {r : Int32} (e : f_J0_length_8abf5 h a0 = some r) : CMet l yJ0_length_8abf5 (z_W yJ0_length_8abf5 cJ0_length_8abf5 1 (some .int)) rmJ0_length_8abf5 h [.ref a0] (.inr (some (.int r))) h :=
  z_met hl Y_J0_length_8abf5 (by decide +kernel) (Nat.le_of_ble_eq_true rfl) (fun X hX E T0 M => b_J0_length_8abf5 E T0 e M)
abbrev rmJ0_isLatin1_aae02 : Room := { frames := 0, cells := 0, slots := 0, locals := 0 }
noncomputable def f_J0_isLatin1_aae02 (h : PH) (a0 : Nat) : Option Bool :=
  (rdI h a0 0 1).bind fun x1 =>
  if ¬ x1 = 0 then
    some false
  else
    some true
theorem b_J0_isLatin1_aae02 {X : PX} (E : z_E X cJ0_isLatin1_aae02 RJ0 "isLatin1" 1 rmJ0_isLatin1_aae02 (some .boolean)) (T0 : z_T0 X) {h : PH} {a0 : Nat} {r : Bool} (e : f_J0_isLatin1_aae02 h a0 = some r) (M : z_M X rmJ0_isLatin1_aae02.cells rmJ0_isLatin1_aae02.slots (.inr (some (.int (zb r)))) h) : WP X 1 0 0 0 [(0, .ref a0)] [] h := by
  unfold f_J0_isLatin1_aae02 at e
  refine z_gets E (List.mem_of_getElem? (i := 1) rfl) gs_J0_38 dJ0_isLatin1_aae02_0 ?_
  refine z_if_eqF (tgt := 17) E dJ0_isLatin1_aae02_3 rfl (by decide) ?_
  refine z_aload_n E 0 dJ0_isLatin1_aae02_6 rfl ?_
  obtain ⟨x1, e2, e⟩ := ob e
  refine z_getI E fl_J0_15 dJ0_isLatin1_aae02_7 e2 ?_
  rcases oi e with ⟨c3, e⟩ | ⟨c3, e⟩
  · refine z_if_neT (tgt := 17) E dJ0_isLatin1_aae02_10 rfl c3 ?_
    refine z_iconst E dJ0_isLatin1_aae02_17 ic_0 ?_
    obtain rfl := Option.some.inj e
    exact z_iret E M dJ0_isLatin1_aae02_18 rfl rfl rfl rfl (by decide) (by decide)
  · refine z_if_neF (tgt := 17) E dJ0_isLatin1_aae02_10 rfl (Classical.not_not.mp c3) ?_
    refine z_iconst E dJ0_isLatin1_aae02_13 ic_1 ?_
    refine z_goto (tgt := 18) E dJ0_isLatin1_aae02_14 rfl ?_
    obtain rfl := Option.some.inj e
    exact z_iret E M dJ0_isLatin1_aae02_18 rfl rfl rfl rfl (by decide) (by decide)
theorem c_J0_isLatin1_aae02 {l : Launch} (hl : l.stackTraces = false) {h : PH} {a0 : Nat} {r : Bool} (e : f_J0_isLatin1_aae02 h a0 = some r) : CMet l yJ0_isLatin1_aae02 (z_W yJ0_isLatin1_aae02 cJ0_isLatin1_aae02 1 (some .boolean)) rmJ0_isLatin1_aae02 h [.ref a0] (.inr (some (.int (zb r)))) h :=
  z_met hl Y_J0_isLatin1_aae02 (by decide +kernel) (Nat.le_of_ble_eq_true rfl) (fun X hX E T0 M => b_J0_isLatin1_aae02 E T0 e M)
abbrev rmJ1_charAt_3b067 : Room := { frames := 9, cells := 0, slots := 0, locals := 161 }
noncomputable def f_J1_charAt_3b067 (h : PH) (a0 : Nat) (a1 : Int32) : Option Int32 :=
  (alA .byte h a0).bind fun x1 =>
  (f_J0_checkIndex_df160 a1 x1).bind fun p3 =>
  (alI .byte h a0 a1).bind fun x5 =>
  (zn .char (zi2c (x5 &&& (255 : Int32)))).bind fun x7 =>
  some x7
theorem b_J1_charAt_3b067 {X : PX} (E : z_E X cJ1_charAt_3b067 RJ1 "charAt" 2 rmJ1_charAt_3b067 (some .char)) (T0 : z_T0 X) {h : PH} {a0 : Nat} {a1 : Int32} {r : Int32} (e : f_J1_charAt_3b067 h a0 a1 = some r) (M : z_M X rmJ1_charAt_3b067.cells rmJ1_charAt_3b067.slots (.inr (some (.int r))) h) : WP X 2 0 0 0 [(0, .ref a0), (1, .int a1)] [] h := by
  unfold f_J1_charAt_3b067 at e
  refine z_iload_n E 1 dJ1_charAt_3b067_0 rfl ?_
  refine z_aload_n E 0 dJ1_charAt_3b067_1 rfl ?_
  obtain ⟨x1, e2, e⟩ := ob e
  refine z_alenA E 2 (fun _ => rfl) dJ1_charAt_3b067_2 e2 ?_
  obtain ⟨p3, e4, e⟩ := ob e
  refine z_kV2 (st := []) (av := [.int a1, .int x1]) E 0 0 (z_rS (st := []) (av := [.int a1, .int x1]) E Y_J0_checkIndex_df160 k_J1_9 (c_J0_checkIndex_df160 (z_El E) e4) dJ1_charAt_3b067_3 rfl rfl (by decide) (by decide) (by decide) (by decide) (Nat.zero_le _)) rfl rfl rfl ?_
  refine z_aload_n E 0 dJ1_charAt_3b067_6 rfl ?_
  refine z_iload_n E 1 dJ1_charAt_3b067_7 rfl ?_
  obtain ⟨x5, e6, e⟩ := ob e
  refine z_bald E dJ1_charAt_3b067_8 e6 ?_
  refine z_sipush E dJ1_charAt_3b067_9 sp_255 ?_
  refine z_iand E dJ1_charAt_3b067_12 ?_
  refine z_i2c (v := (zi2c (x5 &&& (255 : Int32)))) E dJ1_charAt_3b067_13 rfl ?_
  obtain ⟨x7, e8, e⟩ := ob e
  obtain ⟨x7a, x7b, -⟩ := z_zn e8
  obtain rfl := Option.some.inj e
  exact z_iret E M dJ1_charAt_3b067_14 rfl x7b (congrArg (fun z => Sum.inr (some (Value.int z))) x7a) rfl (by decide) (by decide)
theorem c_J1_charAt_3b067 {l : Launch} (hl : l.stackTraces = false) {h : PH} {a0 : Nat} {a1 : Int32} {r : Int32} (e : f_J1_charAt_3b067 h a0 a1 = some r) : CMet l yJ1_charAt_3b067 (z_W yJ1_charAt_3b067 cJ1_charAt_3b067 2 (some .char)) rmJ1_charAt_3b067 h [.ref a0, .int a1] (.inr (some (.int r))) h :=
  z_met hl Y_J1_charAt_3b067 (by decide +kernel) (Nat.le_of_ble_eq_true rfl) (fun X hX E T0 M => b_J1_charAt_3b067 E T0 e M)
abbrev rmJ0_charAt_5068e : Room := { frames := 10, cells := 0, slots := 0, locals := 182 }
noncomputable def f_J0_charAt_5068e (h : PH) (a0 : Nat) (a1 : Int32) : Option Int32 :=
  (gd h a0 0).bind fun _ =>
  (f_J0_isLatin1_aae02 h a0).bind fun p2 =>
  if p2 = false then
    (rdR h a0 0 0).bind fun x5 =>
    none
  else
    (rdR h a0 0 0).bind fun x7 =>
    (f_J1_charAt_3b067 h x7 a1).bind fun p9 =>
    (zn .char p9).bind fun x11 =>
    some x11
theorem b_J0_charAt_5068e {X : PX} (E : z_E X cJ0_charAt_5068e RJ0 "charAt" 2 rmJ0_charAt_5068e (some .char)) (T0 : z_T0 X) {h : PH} {a0 : Nat} {a1 : Int32} {r : Int32} (e : f_J0_charAt_5068e h a0 a1 = some r) (M : z_M X rmJ0_charAt_5068e.cells rmJ0_charAt_5068e.slots (.inr (some (.int r))) h) : WP X 2 0 0 0 [(0, .ref a0), (1, .int a1)] [] h := by
  unfold f_J0_charAt_5068e at e
  refine z_aload_n E 0 dJ0_charAt_5068e_0 rfl ?_
  obtain ⟨_, e1, e⟩ := ob e
  obtain ⟨p2, e3, e⟩ := ob e
  refine z_kR2 (st := []) (av := [.ref a0]) E 0 0 (z_rV (st := []) (av := []) E Y_J0_isLatin1_aae02 k_J0_492 (ci := 0) rfl (c_J0_isLatin1_aae02 (z_El E) e3) dJ0_charAt_5068e_1 e1 rfl rfl (by decide) (by decide) (by decide) (by decide) (Nat.zero_le _)) rfl rfl rfl ?_
  rcases oi e with ⟨c4, e⟩ | ⟨c4, e⟩
  · refine z_if_eqT (tgt := 16) E dJ0_charAt_5068e_4 rfl (zb_f c4) ?_
    refine z_aload_n E 0 dJ0_charAt_5068e_16 rfl ?_
    obtain ⟨x5, e6, e⟩ := ob e
    refine z_getR E fl_J0_9 dJ0_charAt_5068e_17 e6 ?_
    refine z_iload_n E 1 dJ0_charAt_5068e_20 rfl ?_
    cases e
  · refine z_if_eqF (tgt := 16) E dJ0_charAt_5068e_4 rfl (zb_nf c4) ?_
    refine z_aload_n E 0 dJ0_charAt_5068e_7 rfl ?_
    obtain ⟨x7, e8, e⟩ := ob e
    refine z_getR E fl_J0_9 dJ0_charAt_5068e_8 e8 ?_
    refine z_iload_n E 1 dJ0_charAt_5068e_11 rfl ?_
    obtain ⟨p9, e10, e⟩ := ob e
    refine z_kR2 (st := []) (av := [.ref x7, .int a1]) E 0 0 (z_rS (st := []) (av := [.ref x7, .int a1]) E Y_J1_charAt_3b067 k_J0_495 (c_J1_charAt_3b067 (z_El E) e10) dJ0_charAt_5068e_12 rfl rfl (by decide) (by decide) (by decide) (by decide) (Nat.zero_le _)) rfl rfl rfl ?_
    obtain ⟨x11, e12, e⟩ := ob e
    obtain ⟨x11a, x11b, -⟩ := z_zn e12
    obtain rfl := Option.some.inj e
    exact z_iret E M dJ0_charAt_5068e_15 rfl x11b (congrArg (fun z => Sum.inr (some (Value.int z))) x11a) rfl (by decide) (by decide)
theorem c_J0_charAt_5068e {l : Launch} (hl : l.stackTraces = false) {h : PH} {a0 : Nat} {a1 : Int32} {r : Int32} (e : f_J0_charAt_5068e h a0 a1 = some r) : CMet l yJ0_charAt_5068e (z_W yJ0_charAt_5068e cJ0_charAt_5068e 2 (some .char)) rmJ0_charAt_5068e h [.ref a0, .int a1] (.inr (some (.int r))) h :=
  z_met hl Y_J0_charAt_5068e (by decide +kernel) (Nat.le_of_ble_eq_true rfl) (fun X hX E T0 M => b_J0_charAt_5068e E T0 e M)
abbrev rmX8_isDigitNext : Room := { frames := 0, cells := 0, slots := 0, locals := 0 }
noncomputable def f_X8_isDigitNext (h : PH) (a0 : Nat) : Option Bool :=
  (rdI h a0 10 8).bind fun x1 =>
  (rdI h a0 10 1).bind fun x3 =>
  if x3 ≤ x1 then
    some false
  else
    (rdR h a0 10 0).bind fun x6 =>
    (rdI h a0 10 8).bind fun x8 =>
    (alI .char h x6 x8).bind fun x10 =>
    if x10 < (48 : Int32) then
      some false
    else
      (rdR h a0 10 0).bind fun x13 =>
      (rdI h a0 10 8).bind fun x15 =>
      (alI .char h x13 x15).bind fun x17 =>
      if (57 : Int32) < x17 then
        some false
      else
        some true
theorem b_X8_isDigitNext {X : PX} (E : z_E X cX8_isDigitNext RX8 "isDigitNext" 1 rmX8_isDigitNext (some .boolean)) (T0 : z_T0 X) {h : PH} {a0 : Nat} {r : Bool} (e : f_X8_isDigitNext h a0 = some r) (M : z_M X rmX8_isDigitNext.cells rmX8_isDigitNext.slots (.inr (some (.int (zb r)))) h) : WP X 1 0 0 0 [(0, .ref a0)] [] h := by
  unfold f_X8_isDigitNext at e
  refine z_aload_n E 0 dX8_isDigitNext_0 rfl ?_
  obtain ⟨x1, e2, e⟩ := ob e
  refine z_getI E fl_X8_49 dX8_isDigitNext_1 e2 ?_
  refine z_aload_n E 0 dX8_isDigitNext_4 rfl ?_
  obtain ⟨x3, e4, e⟩ := ob e
  refine z_getI E fl_X8_35 dX8_isDigitNext_5 e4 ?_
  rcases oi e with ⟨c5, e⟩ | ⟨c5, e⟩
  · refine z_icmp_geT (tgt := 43) E dX8_isDigitNext_8 rfl c5 ?_
    refine z_iconst E dX8_isDigitNext_43 ic_0 ?_
    obtain rfl := Option.some.inj e
    exact z_iret E M dX8_isDigitNext_44 rfl rfl rfl rfl (by decide) (by decide)
  · refine z_icmp_geF (tgt := 43) E dX8_isDigitNext_8 rfl c5 ?_
    refine z_aload_n E 0 dX8_isDigitNext_11 rfl ?_
    obtain ⟨x6, e7, e⟩ := ob e
    refine z_getR E fl_X8_9 dX8_isDigitNext_12 e7 ?_
    refine z_aload_n E 0 dX8_isDigitNext_15 rfl ?_
    obtain ⟨x8, e9, e⟩ := ob e
    refine z_getI E fl_X8_49 dX8_isDigitNext_16 e9 ?_
    obtain ⟨x10, e11, e⟩ := ob e
    refine z_cald E dX8_isDigitNext_19 e11 ?_
    refine z_bipush E dX8_isDigitNext_20 bp_48 ?_
    rcases oi e with ⟨c12, e⟩ | ⟨c12, e⟩
    · refine z_icmp_ltT (tgt := 43) E dX8_isDigitNext_22 rfl c12 ?_
      refine z_iconst E dX8_isDigitNext_43 ic_0 ?_
      obtain rfl := Option.some.inj e
      exact z_iret E M dX8_isDigitNext_44 rfl rfl rfl rfl (by decide) (by decide)
    · refine z_icmp_ltF (tgt := 43) E dX8_isDigitNext_22 rfl c12 ?_
      refine z_aload_n E 0 dX8_isDigitNext_25 rfl ?_
      obtain ⟨x13, e14, e⟩ := ob e
      refine z_getR E fl_X8_9 dX8_isDigitNext_26 e14 ?_
      refine z_aload_n E 0 dX8_isDigitNext_29 rfl ?_
      obtain ⟨x15, e16, e⟩ := ob e
      refine z_getI E fl_X8_49 dX8_isDigitNext_30 e16 ?_
      obtain ⟨x17, e18, e⟩ := ob e
      refine z_cald E dX8_isDigitNext_33 e18 ?_
      refine z_bipush E dX8_isDigitNext_34 bp_57 ?_
      rcases oi e with ⟨c19, e⟩ | ⟨c19, e⟩
      · refine z_icmp_gtT (tgt := 43) E dX8_isDigitNext_36 rfl c19 ?_
        refine z_iconst E dX8_isDigitNext_43 ic_0 ?_
        obtain rfl := Option.some.inj e
        exact z_iret E M dX8_isDigitNext_44 rfl rfl rfl rfl (by decide) (by decide)
      · refine z_icmp_gtF (tgt := 43) E dX8_isDigitNext_36 rfl c19 ?_
        refine z_iconst E dX8_isDigitNext_39 ic_1 ?_
        refine z_goto (tgt := 44) E dX8_isDigitNext_40 rfl ?_
        obtain rfl := Option.some.inj e
        exact z_iret E M dX8_isDigitNext_44 rfl rfl rfl rfl (by decide) (by decide)
theorem c_X8_isDigitNext {l : Launch} (hl : l.stackTraces = false) {h : PH} {a0 : Nat} {r : Bool} (e : f_X8_isDigitNext h a0 = some r) : CMet l yX8_isDigitNext (z_W yX8_isDigitNext cX8_isDigitNext 1 (some .boolean)) rmX8_isDigitNext h [.ref a0] (.inr (some (.int (zb r)))) h :=
  z_met hl Y_X8_isDigitNext (by decide +kernel) (Nat.le_of_ble_eq_true rfl) (fun X hX E T0 M => b_X8_isDigitNext E T0 e M)
abbrev rmX8_takeDigit : Room := { frames := 0, cells := 0, slots := 0, locals := 0 }
noncomputable def f_X8_takeDigit (h : PH) (a0 : Nat) : Option (Int32 × PH) :=
  (rdR h a0 10 0).bind fun x1 =>
  (rdI h a0 10 8).bind fun x3 =>
  (alI .char h x1 x3).bind fun x5 =>
  (rdI h a0 10 8).bind fun x7 =>
  (wr h a0 10 8 (.int (x7 + (1 : Int32)))).bind fun h9 =>
  some ((x5 - (48 : Int32)), h9)
theorem b_X8_takeDigit {X : PX} (E : z_E X cX8_takeDigit RX8 "takeDigit" 2 rmX8_takeDigit (some .int)) (T0 : z_T0 X) {h : PH} {a0 : Nat} {r : (Int32 × PH)} (e : f_X8_takeDigit h a0 = some r) (M : z_M X rmX8_takeDigit.cells rmX8_takeDigit.slots (.inr (some (.int r.1))) r.2) : WP X 2 0 0 0 [(0, .ref a0)] [] h := by
  unfold f_X8_takeDigit at e
  refine z_aload_n E 0 dX8_takeDigit_0 rfl ?_
  obtain ⟨x1, e2, e⟩ := ob e
  refine z_getR E fl_X8_9 dX8_takeDigit_1 e2 ?_
  refine z_aload_n E 0 dX8_takeDigit_4 rfl ?_
  obtain ⟨x3, e4, e⟩ := ob e
  refine z_getI E fl_X8_49 dX8_takeDigit_5 e4 ?_
  obtain ⟨x5, e6, e⟩ := ob e
  refine z_cald E dX8_takeDigit_8 e6 ?_
  refine z_bipush E dX8_takeDigit_9 bp_48 ?_
  refine z_isub E dX8_takeDigit_11 ?_
  refine z_istore_n (lv2 := [(1, .int (x5 - (48 : Int32))), (0, .ref a0)]) E dX8_takeDigit_12 (by decide) rfl ?_
  refine z_aload_n E 1 dX8_takeDigit_13 rfl ?_
  refine z_dup E dX8_takeDigit_14 rfl ?_
  obtain ⟨x7, e8, e⟩ := ob e
  refine z_getI E fl_X8_49 dX8_takeDigit_15 e8 ?_
  refine z_iconst E dX8_takeDigit_18 ic_1 ?_
  refine z_iadd E dX8_takeDigit_19 ?_
  obtain ⟨h9, e10, e⟩ := ob e
  refine z_putI E fp_X8_49 (Or.inl rfl) dX8_takeDigit_20 e10 ?_
  refine z_iload_n E 0 dX8_takeDigit_23 rfl ?_
  obtain rfl := Option.some.inj e
  exact z_iret E M dX8_takeDigit_24 rfl rfl rfl rfl (by decide) (by decide)
theorem c_X8_takeDigit {l : Launch} (hl : l.stackTraces = false) {h : PH} {a0 : Nat} {r : (Int32 × PH)} (e : f_X8_takeDigit h a0 = some r) : CMet l yX8_takeDigit (z_W yX8_takeDigit cX8_takeDigit 2 (some .int)) rmX8_takeDigit h [.ref a0] (.inr (some (.int r.1))) r.2 :=
  z_met hl Y_X8_takeDigit (by decide +kernel) (Nat.le_of_ble_eq_true rfl) (fun X hX E T0 M => b_X8_takeDigit E T0 e M)
abbrev rmX8_addValue : Room := { frames := 0, cells := 0, slots := 0, locals := 0 }
noncomputable def f_X8_addValue (h : PH) (a0 : Nat) (a1 : Int32) : Option PH :=
  (rdI h a0 10 10).bind fun x1 =>
  (rdR h a0 10 9).bind fun x3 =>
  (alA .int h x3).bind fun x5 =>
  if x5 ≤ x1 then
    some h
  else
    (rdR h a0 10 9).bind fun x8 =>
    (rdI h a0 10 10).bind fun x10 =>
    (asI .int h x8 x10 a1).bind fun h12 =>
    (rdI h12 a0 10 10).bind fun x14 =>
    (wr h12 a0 10 10 (.int (x14 + (1 : Int32)))).bind fun h16 =>
    some h16
theorem b_X8_addValue {X : PX} (E : z_E X cX8_addValue RX8 "addValue" 2 rmX8_addValue none) (T0 : z_T0 X) {h : PH} {a0 : Nat} {a1 : Int32} {r : PH} (e : f_X8_addValue h a0 a1 = some r) (M : z_M X rmX8_addValue.cells rmX8_addValue.slots (.inr none) r) : WP X 2 0 0 0 [(0, .ref a0), (1, .int a1)] [] h := by
  unfold f_X8_addValue at e
  refine z_aload_n E 0 dX8_addValue_0 rfl ?_
  obtain ⟨x1, e2, e⟩ := ob e
  refine z_getI E fl_X8_94 dX8_addValue_1 e2 ?_
  refine z_aload_n E 0 dX8_addValue_4 rfl ?_
  obtain ⟨x3, e4, e⟩ := ob e
  refine z_getR E fl_X8_32 dX8_addValue_5 e4 ?_
  obtain ⟨x5, e6, e⟩ := ob e
  refine z_alenA E 0 (fun _ => rfl) dX8_addValue_8 e6 ?_
  rcases oi e with ⟨c7, e⟩ | ⟨c7, e⟩
  · refine z_icmp_geT (tgt := 32) E dX8_addValue_9 rfl c7 ?_
    obtain rfl := Option.some.inj e
    exact z_vret E M dX8_addValue_32 rfl rfl rfl (by decide) (by decide)
  · refine z_icmp_geF (tgt := 32) E dX8_addValue_9 rfl c7 ?_
    refine z_aload_n E 0 dX8_addValue_12 rfl ?_
    obtain ⟨x8, e9, e⟩ := ob e
    refine z_getR E fl_X8_32 dX8_addValue_13 e9 ?_
    refine z_aload_n E 0 dX8_addValue_16 rfl ?_
    obtain ⟨x10, e11, e⟩ := ob e
    refine z_getI E fl_X8_94 dX8_addValue_17 e11 ?_
    refine z_iload_n E 1 dX8_addValue_20 rfl ?_
    obtain ⟨h12, e13, e⟩ := ob e
    refine z_iast E dX8_addValue_21 e13 ?_
    refine z_aload_n E 0 dX8_addValue_22 rfl ?_
    refine z_dup E dX8_addValue_23 rfl ?_
    obtain ⟨x14, e15, e⟩ := ob e
    refine z_getI E fl_X8_94 dX8_addValue_24 e15 ?_
    refine z_iconst E dX8_addValue_27 ic_1 ?_
    refine z_iadd E dX8_addValue_28 ?_
    obtain ⟨h16, e17, e⟩ := ob e
    refine z_putI E fp_X8_94 (Or.inl rfl) dX8_addValue_29 e17 ?_
    obtain rfl := Option.some.inj e
    exact z_vret E M dX8_addValue_32 rfl rfl rfl (by decide) (by decide)
theorem c_X8_addValue {l : Launch} (hl : l.stackTraces = false) {h : PH} {a0 : Nat} {a1 : Int32} {r : PH} (e : f_X8_addValue h a0 a1 = some r) : CMet l yX8_addValue (z_W yX8_addValue cX8_addValue 2 none) rmX8_addValue h [.ref a0, .int a1] (.inr none) r :=
  z_met hl Y_X8_addValue (by decide +kernel) (Nat.le_of_ble_eq_true rfl) (fun X hX E T0 M => b_X8_addValue E T0 e M)
abbrev rmX8_matchesNumber : Room := { frames := 1, cells := 0, slots := 0, locals := 21 }
noncomputable def f_X8_matchesNumber (h : PH) (a0 : Nat) : Option (Bool × PH) :=
  (gd h a0 10).bind fun _ =>
  (f_X8_isDigitNext h a0).bind fun p2 =>
  if p2 = true then
    (gd h a0 10).bind fun _ =>
    (f_X8_takeDigit h a0).bind fun p6 =>
    (gd p6.2 a0 10).bind fun _ =>
    (f_X8_isDigitNext p6.2 a0).bind fun p9 =>
    if p9 = false then
      (gd p6.2 a0 10).bind fun _ =>
      (f_X8_addValue p6.2 a0 p6.1).bind fun p13 =>
      some (true, p13)
    else
      (gd p6.2 a0 10).bind fun _ =>
      (f_X8_takeDigit p6.2 a0).bind fun p16 =>
      (gd p16.2 a0 10).bind fun _ =>
      (f_X8_addValue p16.2 a0 (((10 : Int32) * p6.1) + p16.1)).bind fun p19 =>
      some (true, p19)
  else
    some (false, h)
theorem b_X8_matchesNumber {X : PX} (E : z_E X cX8_matchesNumber RX8 "matchesNumber" 2 rmX8_matchesNumber (some .boolean)) (T0 : z_T0 X) {h : PH} {a0 : Nat} {r : (Bool × PH)} (e : f_X8_matchesNumber h a0 = some r) (M : z_M X rmX8_matchesNumber.cells rmX8_matchesNumber.slots (.inr (some (.int (zb r.1)))) r.2) : WP X 2 0 0 0 [(0, .ref a0)] [] h := by
  unfold f_X8_matchesNumber at e
  refine z_aload_n E 0 dX8_matchesNumber_0 rfl ?_
  obtain ⟨_, e1, e⟩ := ob e
  obtain ⟨p2, e3, e⟩ := ob e
  refine z_kR2 (st := []) (av := [.ref a0]) E 0 0 (z_rV (st := []) (av := []) E Y_X8_isDigitNext k_X8_125 (ci := 10) rfl (c_X8_isDigitNext (z_El E) e3) dX8_matchesNumber_1 e1 rfl rfl (by decide) (by decide) (by decide) (by decide) (Nat.zero_le _)) rfl rfl rfl ?_
  rcases oi e with ⟨c4, e⟩ | ⟨c4, e⟩
  · refine z_if_neT (tgt := 9) E dX8_matchesNumber_4 rfl (zb_t c4) ?_
    refine z_aload_n E 0 dX8_matchesNumber_9 rfl ?_
    obtain ⟨_, e5, e⟩ := ob e
    obtain ⟨p6, e7, e⟩ := ob e
    refine z_kR2 (st := []) (av := [.ref a0]) E 0 0 (z_rV (st := []) (av := []) E Y_X8_takeDigit k_X8_128 (ci := 10) rfl (c_X8_takeDigit (z_El E) e7) dX8_matchesNumber_10 e5 rfl rfl (by decide) (by decide) (by decide) (by decide) (Nat.zero_le _)) rfl rfl rfl ?_
    refine z_istore_n (lv2 := [(1, .int p6.1), (0, .ref a0)]) E dX8_matchesNumber_13 (by decide) rfl ?_
    refine z_aload_n E 1 dX8_matchesNumber_14 rfl ?_
    obtain ⟨_, e8, e⟩ := ob e
    obtain ⟨p9, e10, e⟩ := ob e
    refine z_kR2 (st := []) (av := [.ref a0]) E 0 0 (z_rV (st := []) (av := []) E Y_X8_isDigitNext k_X8_125 (ci := 10) rfl (c_X8_isDigitNext (z_El E) e10) dX8_matchesNumber_15 e8 rfl rfl (by decide) (by decide) (by decide) (by decide) (Nat.zero_le _)) rfl rfl rfl ?_
    rcases oi e with ⟨c11, e⟩ | ⟨c11, e⟩
    · refine z_if_eqT (tgt := 31) E dX8_matchesNumber_18 rfl (zb_f c11) ?_
      refine z_aload_n E 1 dX8_matchesNumber_31 rfl ?_
      refine z_iload_n E 0 dX8_matchesNumber_32 rfl ?_
      obtain ⟨_, e12, e⟩ := ob e
      obtain ⟨p13, e14, e⟩ := ob e
      refine z_kV2 (st := []) (av := [.ref a0, .int p6.1]) E 0 0 (z_rV (st := []) (av := [.int p6.1]) E Y_X8_addValue k_X8_131 (ci := 10) rfl (c_X8_addValue (z_El E) e14) dX8_matchesNumber_33 e12 rfl rfl (by decide) (by decide) (by decide) (by decide) (Nat.zero_le _)) rfl rfl rfl ?_
      refine z_iconst E dX8_matchesNumber_36 ic_1 ?_
      obtain rfl := Option.some.inj e
      exact z_iret E M dX8_matchesNumber_37 rfl rfl rfl rfl (by decide) (by decide)
    · refine z_if_eqF (tgt := 31) E dX8_matchesNumber_18 rfl (zb_nf c11) ?_
      refine z_bipush E dX8_matchesNumber_21 bp_10 ?_
      refine z_iload_n E 0 dX8_matchesNumber_23 rfl ?_
      refine z_imul E dX8_matchesNumber_24 ?_
      refine z_aload_n E 1 dX8_matchesNumber_25 rfl ?_
      obtain ⟨_, e15, e⟩ := ob e
      obtain ⟨p16, e17, e⟩ := ob e
      refine z_kR2 (st := [.int ((10 : Int32) * p6.1)]) (av := [.ref a0]) E 0 0 (z_rV (st := [.int ((10 : Int32) * p6.1)]) (av := []) E Y_X8_takeDigit k_X8_128 (ci := 10) rfl (c_X8_takeDigit (z_El E) e17) dX8_matchesNumber_26 e15 rfl rfl (by decide) (by decide) (by decide) (by decide) (Nat.le_of_ble_eq_true rfl)) rfl rfl rfl ?_
      refine z_iadd E dX8_matchesNumber_29 ?_
      refine z_istore_n (lv2 := [(1, .int (((10 : Int32) * p6.1) + p16.1)), (0, .ref a0)]) E dX8_matchesNumber_30 (by decide) rfl ?_
      refine z_aload_n E 1 dX8_matchesNumber_31 rfl ?_
      refine z_iload_n E 0 dX8_matchesNumber_32 rfl ?_
      obtain ⟨_, e18, e⟩ := ob e
      obtain ⟨p19, e20, e⟩ := ob e
      refine z_kV2 (st := []) (av := [.ref a0, .int (((10 : Int32) * p6.1) + p16.1)]) E 0 0 (z_rV (st := []) (av := [.int (((10 : Int32) * p6.1) + p16.1)]) E Y_X8_addValue k_X8_131 (ci := 10) rfl (c_X8_addValue (z_El E) e20) dX8_matchesNumber_33 e18 rfl rfl (by decide) (by decide) (by decide) (by decide) (Nat.zero_le _)) rfl rfl rfl ?_
      refine z_iconst E dX8_matchesNumber_36 ic_1 ?_
      obtain rfl := Option.some.inj e
      exact z_iret E M dX8_matchesNumber_37 rfl rfl rfl rfl (by decide) (by decide)
  · refine z_if_neF (tgt := 9) E dX8_matchesNumber_4 rfl (zb_nt c4) ?_
    refine z_iconst E dX8_matchesNumber_7 ic_0 ?_
    obtain rfl := Option.some.inj e
    exact z_iret E M dX8_matchesNumber_8 rfl rfl rfl rfl (by decide) (by decide)
theorem c_X8_matchesNumber {l : Launch} (hl : l.stackTraces = false) {h : PH} {a0 : Nat} {r : (Bool × PH)} (e : f_X8_matchesNumber h a0 = some r) : CMet l yX8_matchesNumber (z_W yX8_matchesNumber cX8_matchesNumber 2 (some .boolean)) rmX8_matchesNumber h [.ref a0] (.inr (some (.int (zb r.1)))) r.2 :=
  z_met hl Y_X8_matchesNumber (by decide +kernel) (Nat.le_of_ble_eq_true rfl) (fun X hX E T0 M => b_X8_matchesNumber E T0 e M)
abbrev rmX8_matchesDigit : Room := { frames := 1, cells := 0, slots := 0, locals := 21 }
noncomputable def f_X8_matchesDigit (h : PH) (a0 : Nat) (a1 : Int32) : Option (Bool × PH) :=
  (gd h a0 10).bind fun _ =>
  (f_X8_isDigitNext h a0).bind fun p2 =>
  if p2 = true then
    (gd h a0 10).bind fun _ =>
    (f_X8_takeDigit h a0).bind fun p6 =>
    (gd p6.2 a0 10).bind fun _ =>
    (f_X8_addValue p6.2 a0 (a1 * p6.1)).bind fun p9 =>
    some (true, p9)
  else
    some (false, h)
theorem b_X8_matchesDigit {X : PX} (E : z_E X cX8_matchesDigit RX8 "matchesDigit" 2 rmX8_matchesDigit (some .boolean)) (T0 : z_T0 X) {h : PH} {a0 : Nat} {a1 : Int32} {r : (Bool × PH)} (e : f_X8_matchesDigit h a0 a1 = some r) (M : z_M X rmX8_matchesDigit.cells rmX8_matchesDigit.slots (.inr (some (.int (zb r.1)))) r.2) : WP X 2 0 0 0 [(0, .ref a0), (1, .int a1)] [] h := by
  unfold f_X8_matchesDigit at e
  refine z_aload_n E 0 dX8_matchesDigit_0 rfl ?_
  obtain ⟨_, e1, e⟩ := ob e
  obtain ⟨p2, e3, e⟩ := ob e
  refine z_kR2 (st := []) (av := [.ref a0]) E 0 0 (z_rV (st := []) (av := []) E Y_X8_isDigitNext k_X8_125 (ci := 10) rfl (c_X8_isDigitNext (z_El E) e3) dX8_matchesDigit_1 e1 rfl rfl (by decide) (by decide) (by decide) (by decide) (Nat.zero_le _)) rfl rfl rfl ?_
  rcases oi e with ⟨c4, e⟩ | ⟨c4, e⟩
  · refine z_if_neT (tgt := 9) E dX8_matchesDigit_4 rfl (zb_t c4) ?_
    refine z_aload_n E 0 dX8_matchesDigit_9 rfl ?_
    refine z_iload_n E 1 dX8_matchesDigit_10 rfl ?_
    refine z_aload_n E 0 dX8_matchesDigit_11 rfl ?_
    obtain ⟨_, e5, e⟩ := ob e
    obtain ⟨p6, e7, e⟩ := ob e
    refine z_kR2 (st := [.int a1, .ref a0]) (av := [.ref a0]) E 0 0 (z_rV (st := [.int a1, .ref a0]) (av := []) E Y_X8_takeDigit k_X8_128 (ci := 10) rfl (c_X8_takeDigit (z_El E) e7) dX8_matchesDigit_12 e5 rfl rfl (by decide) (by decide) (by decide) (by decide) (Nat.le_of_ble_eq_true rfl)) rfl rfl rfl ?_
    refine z_imul E dX8_matchesDigit_15 ?_
    obtain ⟨_, e8, e⟩ := ob e
    obtain ⟨p9, e10, e⟩ := ob e
    refine z_kV2 (st := []) (av := [.ref a0, .int (a1 * p6.1)]) E 0 0 (z_rV (st := []) (av := [.int (a1 * p6.1)]) E Y_X8_addValue k_X8_131 (ci := 10) rfl (c_X8_addValue (z_El E) e10) dX8_matchesDigit_16 e8 rfl rfl (by decide) (by decide) (by decide) (by decide) (Nat.zero_le _)) rfl rfl rfl ?_
    refine z_iconst E dX8_matchesDigit_19 ic_1 ?_
    obtain rfl := Option.some.inj e
    exact z_iret E M dX8_matchesDigit_20 rfl rfl rfl rfl (by decide) (by decide)
  · refine z_if_neF (tgt := 9) E dX8_matchesDigit_4 rfl (zb_nt c4) ?_
    refine z_iconst E dX8_matchesDigit_7 ic_0 ?_
    obtain rfl := Option.some.inj e
    exact z_iret E M dX8_matchesDigit_8 rfl rfl rfl rfl (by decide) (by decide)
theorem c_X8_matchesDigit {l : Launch} (hl : l.stackTraces = false) {h : PH} {a0 : Nat} {a1 : Int32} {r : (Bool × PH)} (e : f_X8_matchesDigit h a0 a1 = some r) : CMet l yX8_matchesDigit (z_W yX8_matchesDigit cX8_matchesDigit 2 (some .boolean)) rmX8_matchesDigit h [.ref a0, .int a1] (.inr (some (.int (zb r.1)))) r.2 :=
  z_met hl Y_X8_matchesDigit (by decide +kernel) (Nat.le_of_ble_eq_true rfl) (fun X hX E T0 M => b_X8_matchesDigit E T0 e M)
abbrev rmX8_takes : Room := { frames := 0, cells := 0, slots := 0, locals := 0 }
noncomputable def f_X8_takes (h : PH) (a0 : Nat) (a1 : Int32) : Option (Bool × PH) :=
  (rdI h a0 10 8).bind fun x1 =>
  (rdI h a0 10 1).bind fun x3 =>
  if x3 ≤ x1 then
    some (false, h)
  else
    (rdR h a0 10 0).bind fun x6 =>
    (rdI h a0 10 8).bind fun x8 =>
    (alI .char h x6 x8).bind fun x10 =>
    if x10 = a1 then
      (rdI h a0 10 8).bind fun x13 =>
      (wr h a0 10 8 (.int (x13 + (1 : Int32)))).bind fun h15 =>
      some (true, h15)
    else
      some (false, h)
theorem b_X8_takes {X : PX} (E : z_E X cX8_takes RX8 "takes" 2 rmX8_takes (some .boolean)) (T0 : z_T0 X) {h : PH} {a0 : Nat} {a1 : Int32} {r : (Bool × PH)} (e : f_X8_takes h a0 a1 = some r) (M : z_M X rmX8_takes.cells rmX8_takes.slots (.inr (some (.int (zb r.1)))) r.2) : WP X 2 0 0 0 [(0, .ref a0), (1, .int a1)] [] h := by
  unfold f_X8_takes at e
  refine z_aload_n E 0 dX8_takes_0 rfl ?_
  obtain ⟨x1, e2, e⟩ := ob e
  refine z_getI E fl_X8_49 dX8_takes_1 e2 ?_
  refine z_aload_n E 0 dX8_takes_4 rfl ?_
  obtain ⟨x3, e4, e⟩ := ob e
  refine z_getI E fl_X8_35 dX8_takes_5 e4 ?_
  rcases oi e with ⟨c5, e⟩ | ⟨c5, e⟩
  · refine z_icmp_geT (tgt := 24) E dX8_takes_8 rfl c5 ?_
    refine z_iconst E dX8_takes_24 ic_0 ?_
    obtain rfl := Option.some.inj e
    exact z_iret E M dX8_takes_25 rfl rfl rfl rfl (by decide) (by decide)
  · refine z_icmp_geF (tgt := 24) E dX8_takes_8 rfl c5 ?_
    refine z_aload_n E 0 dX8_takes_11 rfl ?_
    obtain ⟨x6, e7, e⟩ := ob e
    refine z_getR E fl_X8_9 dX8_takes_12 e7 ?_
    refine z_aload_n E 0 dX8_takes_15 rfl ?_
    obtain ⟨x8, e9, e⟩ := ob e
    refine z_getI E fl_X8_49 dX8_takes_16 e9 ?_
    obtain ⟨x10, e11, e⟩ := ob e
    refine z_cald E dX8_takes_19 e11 ?_
    refine z_iload_n E 1 dX8_takes_20 rfl ?_
    rcases oi e with ⟨c12, e⟩ | ⟨c12, e⟩
    · refine z_icmp_eqT (tgt := 26) E dX8_takes_21 rfl c12 ?_
      refine z_aload_n E 0 dX8_takes_26 rfl ?_
      refine z_dup E dX8_takes_27 rfl ?_
      obtain ⟨x13, e14, e⟩ := ob e
      refine z_getI E fl_X8_49 dX8_takes_28 e14 ?_
      refine z_iconst E dX8_takes_31 ic_1 ?_
      refine z_iadd E dX8_takes_32 ?_
      obtain ⟨h15, e16, e⟩ := ob e
      refine z_putI E fp_X8_49 (Or.inl rfl) dX8_takes_33 e16 ?_
      refine z_iconst E dX8_takes_36 ic_1 ?_
      obtain rfl := Option.some.inj e
      exact z_iret E M dX8_takes_37 rfl rfl rfl rfl (by decide) (by decide)
    · refine z_icmp_eqF (tgt := 26) E dX8_takes_21 rfl c12 ?_
      refine z_iconst E dX8_takes_24 ic_0 ?_
      obtain rfl := Option.some.inj e
      exact z_iret E M dX8_takes_25 rfl rfl rfl rfl (by decide) (by decide)
theorem c_X8_takes {l : Launch} (hl : l.stackTraces = false) {h : PH} {a0 : Nat} {a1 : Int32} {r : (Bool × PH)} (e : f_X8_takes h a0 a1 = some r) : CMet l yX8_takes (z_W yX8_takes cX8_takes 2 (some .boolean)) rmX8_takes h [.ref a0, .int a1] (.inr (some (.int (zb r.1)))) r.2 :=
  z_met hl Y_X8_takes (by decide +kernel) (Nat.le_of_ble_eq_true rfl) (fun X hX E T0 M => b_X8_takes E T0 e M)
abbrev rmX8_matchesPart : Room := { frames := 2, cells := 0, slots := 0, locals := 42 }
noncomputable def f_X8_matchesPart (h : PH) (a0 : Nat) (a1 : Int32) : Option (Bool × PH) :=
  if ¬ a1 = (78 : Int32) then
    if ¬ a1 = (68 : Int32) then
      if ¬ a1 = (83 : Int32) then
        (gd h a0 10).bind fun _ =>
        (f_X8_takes h a0 a1).bind fun p5 =>
        some (p5.1, p5.2)
      else
        (gd h a0 10).bind fun _ =>
        (f_X8_takes h a0 (45 : Int32)).bind fun p8 =>
        if p8.1 = false then
          (gd p8.2 a0 10).bind fun _ =>
          (f_X8_matchesDigit p8.2 a0 (1 : Int32)).bind fun p12 =>
          some (p12.1, p12.2)
        else
          (gd p8.2 a0 10).bind fun _ =>
          (f_X8_matchesDigit p8.2 a0 (-1 : Int32)).bind fun p15 =>
          some (p15.1, p15.2)
    else
      (gd h a0 10).bind fun _ =>
      (f_X8_matchesDigit h a0 (1 : Int32)).bind fun p18 =>
      some (p18.1, p18.2)
  else
    (gd h a0 10).bind fun _ =>
    (f_X8_matchesNumber h a0).bind fun p21 =>
    some (p21.1, p21.2)
theorem b_X8_matchesPart {X : PX} (E : z_E X cX8_matchesPart RX8 "matchesPart" 2 rmX8_matchesPart (some .boolean)) (T0 : z_T0 X) {h : PH} {a0 : Nat} {a1 : Int32} {r : (Bool × PH)} (e : f_X8_matchesPart h a0 a1 = some r) (M : z_M X rmX8_matchesPart.cells rmX8_matchesPart.slots (.inr (some (.int (zb r.1)))) r.2) : WP X 2 0 0 0 [(0, .ref a0), (1, .int a1)] [] h := by
  unfold f_X8_matchesPart at e
  refine z_iload_n E 1 dX8_matchesPart_0 rfl ?_
  refine z_bipush E dX8_matchesPart_1 bp_78 ?_
  rcases oi e with ⟨c1, e⟩ | ⟨c1, e⟩
  · refine z_icmp_neT (tgt := 11) E dX8_matchesPart_3 rfl c1 ?_
    refine z_iload_n E 1 dX8_matchesPart_11 rfl ?_
    refine z_bipush E dX8_matchesPart_12 bp_68 ?_
    rcases oi e with ⟨c2, e⟩ | ⟨c2, e⟩
    · refine z_icmp_neT (tgt := 23) E dX8_matchesPart_14 rfl c2 ?_
      refine z_iload_n E 1 dX8_matchesPart_23 rfl ?_
      refine z_bipush E dX8_matchesPart_24 bp_83 ?_
      rcases oi e with ⟨c3, e⟩ | ⟨c3, e⟩
      · refine z_icmp_neT (tgt := 48) E dX8_matchesPart_26 rfl c3 ?_
        refine z_aload_n E 0 dX8_matchesPart_48 rfl ?_
        refine z_iload_n E 1 dX8_matchesPart_49 rfl ?_
        obtain ⟨_, e4, e⟩ := ob e
        obtain ⟨p5, e6, e⟩ := ob e
        refine z_kR2 (st := []) (av := [.ref a0, .int a1]) E 0 0 (z_rV (st := []) (av := [.int a1]) E Y_X8_takes k_X8_122 (ci := 10) rfl (c_X8_takes (z_El E) e6) dX8_matchesPart_50 e4 rfl rfl (by decide) (by decide) (by decide) (by decide) (Nat.zero_le _)) rfl rfl rfl ?_
        obtain rfl := Option.some.inj e
        exact z_iret E M dX8_matchesPart_53 rfl (zb_nar _) rfl rfl (by decide) (by decide)
      · refine z_icmp_neF (tgt := 48) E dX8_matchesPart_26 rfl (Classical.not_not.mp c3) ?_
        refine z_aload_n E 0 dX8_matchesPart_29 rfl ?_
        refine z_aload_n E 0 dX8_matchesPart_30 rfl ?_
        refine z_bipush E dX8_matchesPart_31 bp_45 ?_
        obtain ⟨_, e7, e⟩ := ob e
        obtain ⟨p8, e9, e⟩ := ob e
        refine z_kR2 (st := [.ref a0]) (av := [.ref a0, .int (45 : Int32)]) E 0 0 (z_rV (st := [.ref a0]) (av := [.int (45 : Int32)]) E Y_X8_takes k_X8_122 (ci := 10) rfl (c_X8_takes (z_El E) e9) dX8_matchesPart_33 e7 rfl rfl (by decide) (by decide) (by decide) (by decide) (Nat.le_of_ble_eq_true rfl)) rfl rfl rfl ?_
        rcases oi e with ⟨c10, e⟩ | ⟨c10, e⟩
        · refine z_if_eqT (tgt := 43) E dX8_matchesPart_36 rfl (zb_f c10) ?_
          refine z_iconst E dX8_matchesPart_43 ic_1 ?_
          obtain ⟨_, e11, e⟩ := ob e
          obtain ⟨p12, e13, e⟩ := ob e
          refine z_kR2 (st := []) (av := [.ref a0, .int (1 : Int32)]) E 0 0 (z_rV (st := []) (av := [.int (1 : Int32)]) E Y_X8_matchesDigit k_X8_119 (ci := 10) rfl (c_X8_matchesDigit (z_El E) e13) dX8_matchesPart_44 e11 rfl rfl (by decide) (by decide) (by decide) (by decide) (Nat.zero_le _)) rfl rfl rfl ?_
          obtain rfl := Option.some.inj e
          exact z_iret E M dX8_matchesPart_47 rfl (zb_nar _) rfl rfl (by decide) (by decide)
        · refine z_if_eqF (tgt := 43) E dX8_matchesPart_36 rfl (zb_nf c10) ?_
          refine z_iconst E dX8_matchesPart_39 ic_m1 ?_
          refine z_goto (tgt := 44) E dX8_matchesPart_40 rfl ?_
          obtain ⟨_, e14, e⟩ := ob e
          obtain ⟨p15, e16, e⟩ := ob e
          refine z_kR2 (st := []) (av := [.ref a0, .int (-1 : Int32)]) E 0 0 (z_rV (st := []) (av := [.int (-1 : Int32)]) E Y_X8_matchesDigit k_X8_119 (ci := 10) rfl (c_X8_matchesDigit (z_El E) e16) dX8_matchesPart_44 e14 rfl rfl (by decide) (by decide) (by decide) (by decide) (Nat.zero_le _)) rfl rfl rfl ?_
          obtain rfl := Option.some.inj e
          exact z_iret E M dX8_matchesPart_47 rfl (zb_nar _) rfl rfl (by decide) (by decide)
    · refine z_icmp_neF (tgt := 23) E dX8_matchesPart_14 rfl (Classical.not_not.mp c2) ?_
      refine z_aload_n E 0 dX8_matchesPart_17 rfl ?_
      refine z_iconst E dX8_matchesPart_18 ic_1 ?_
      obtain ⟨_, e17, e⟩ := ob e
      obtain ⟨p18, e19, e⟩ := ob e
      refine z_kR2 (st := []) (av := [.ref a0, .int (1 : Int32)]) E 0 0 (z_rV (st := []) (av := [.int (1 : Int32)]) E Y_X8_matchesDigit k_X8_119 (ci := 10) rfl (c_X8_matchesDigit (z_El E) e19) dX8_matchesPart_19 e17 rfl rfl (by decide) (by decide) (by decide) (by decide) (Nat.zero_le _)) rfl rfl rfl ?_
      obtain rfl := Option.some.inj e
      exact z_iret E M dX8_matchesPart_22 rfl (zb_nar _) rfl rfl (by decide) (by decide)
  · refine z_icmp_neF (tgt := 11) E dX8_matchesPart_3 rfl (Classical.not_not.mp c1) ?_
    refine z_aload_n E 0 dX8_matchesPart_6 rfl ?_
    obtain ⟨_, e20, e⟩ := ob e
    obtain ⟨p21, e22, e⟩ := ob e
    refine z_kR2 (st := []) (av := [.ref a0]) E 0 0 (z_rV (st := []) (av := []) E Y_X8_matchesNumber k_X8_116 (ci := 10) rfl (c_X8_matchesNumber (z_El E) e22) dX8_matchesPart_7 e20 rfl rfl (by decide) (by decide) (by decide) (by decide) (Nat.zero_le _)) rfl rfl rfl ?_
    obtain rfl := Option.some.inj e
    exact z_iret E M dX8_matchesPart_10 rfl (zb_nar _) rfl rfl (by decide) (by decide)
theorem c_X8_matchesPart {l : Launch} (hl : l.stackTraces = false) {h : PH} {a0 : Nat} {a1 : Int32} {r : (Bool × PH)} (e : f_X8_matchesPart h a0 a1 = some r) : CMet l yX8_matchesPart (z_W yX8_matchesPart cX8_matchesPart 2 (some .boolean)) rmX8_matchesPart h [.ref a0, .int a1] (.inr (some (.int (zb r.1)))) r.2 :=
  z_met hl Y_X8_matchesPart (by decide +kernel) (Nat.le_of_ble_eq_true rfl) (fun X hX E T0 M => b_X8_matchesPart E T0 e M)
abbrev rmX8_matches : Room := { frames := 11, cells := 0, slots := 0, locals := 203 }
noncomputable def f_X8_matches_L20 : Nat → PH → Nat → Nat → Int32 → Option ((Bool × PH) ⊕ PH)
  | 0, _, _, _, _ => none
  | fu + 1, h, v0, v1, v3 =>
    (gd h v1 0).bind fun _ =>
    (f_J0_length_8abf5 h v1).bind fun p2 =>
    if p2 ≤ v3 then
      some (Sum.inr h)
    else
      (gd h v1 0).bind fun _ =>
      (f_J0_charAt_5068e h v1 v3).bind fun p6 =>
      (gd h v0 10).bind fun _ =>
      (f_X8_matchesPart h v0 p6).bind fun p9 =>
      if p9.1 = true then
        f_X8_matches_L20 fu p9.2 v0 v1 (v3 + (1 : Int32))
      else
        some (Sum.inl (false, p9.2))
theorem b_X8_matches_L20 {X : PX} (E : z_E X cX8_matches RX8 "matches" 4 rmX8_matches (some .boolean)) (T0 : z_T0 X) {k n : Nat} (hk : k + 0 ≤ rmX8_matches.cells) (hn : n + 0 ≤ rmX8_matches.slots) {s : ((Bool × PH) ⊕ PH)} : ∀ (fu : Nat) (h : PH) (v0 : Nat) (v1 : Nat) (v3 : Int32) (e : f_X8_matches_L20 fu h v0 v1 v3 = some s) (M : ∀ q, s = Sum.inl q → z_M X rmX8_matches.cells rmX8_matches.slots (.inr (some (.int (zb q.1)))) q.2) (kk : ∀ t, s = Sum.inr t → WP X 4 k n 48 [] [] t), WP X 4 k n 20 [(0, .ref v0), (1, .ref v1), (3, .int v3)] [] h := by
  intro fu
  induction fu with
  | zero => intro h v0 v1 v3 e; exact absurd (show (none : Option ((Bool × PH) ⊕ PH)) = some s from e) (by intro z; cases z)
  | succ fu ih =>
    intro h v0 v1 v3 e M kk
    unfold f_X8_matches_L20 at e
    refine z_iload_n E 2 dX8_matches_20 rfl ?_
    refine z_aload_n E 1 dX8_matches_21 rfl ?_
    obtain ⟨_, e1, e⟩ := ob e
    obtain ⟨p2, e3, e⟩ := ob e
    refine z_kR2 (st := [.int v3]) (av := [.ref v1]) E k n (z_rV (st := [.int v3]) (av := []) E Y_J0_length_8abf5 k_X8_103 (ci := 0) rfl (c_J0_length_8abf5 (z_El E) e3) dX8_matches_22 e1 rfl rfl (by decide) (by decide) (zk (k := k) (a := 0) hk (by decide)) (zk (k := n) (a := 0) hn (by decide)) (Nat.le_of_ble_eq_true rfl)) rfl rfl rfl ?_
    rcases oi e with ⟨c4, e⟩ | ⟨c4, e⟩
    · refine z_icmp_geT (tgt := 48) E dX8_matches_25 rfl c4 ?_
      obtain rfl := Option.some.inj e
      exact z_sub [] rfl (kk _ rfl)
    · refine z_icmp_geF (tgt := 48) E dX8_matches_25 rfl c4 ?_
      refine z_aload_n E 0 dX8_matches_28 rfl ?_
      refine z_aload_n E 1 dX8_matches_29 rfl ?_
      refine z_iload_n E 2 dX8_matches_30 rfl ?_
      obtain ⟨_, e5, e⟩ := ob e
      obtain ⟨p6, e7, e⟩ := ob e
      refine z_kR2 (st := [.ref v0]) (av := [.ref v1, .int v3]) E k n (z_rV (st := [.ref v0]) (av := [.int v3]) E Y_J0_charAt_5068e k_X8_108 (ci := 0) rfl (c_J0_charAt_5068e (z_El E) e7) dX8_matches_31 e5 rfl rfl (by decide) (by decide) (zk (k := k) (a := 0) hk (by decide)) (zk (k := n) (a := 0) hn (by decide)) (Nat.le_of_ble_eq_true rfl)) rfl rfl rfl ?_
      obtain ⟨_, e8, e⟩ := ob e
      obtain ⟨p9, e10, e⟩ := ob e
      refine z_kR2 (st := []) (av := [.ref v0, .int p6]) E k n (z_rV (st := []) (av := [.int p6]) E Y_X8_matchesPart k_X8_112 (ci := 10) rfl (c_X8_matchesPart (z_El E) e10) dX8_matches_34 e8 rfl rfl (by decide) (by decide) (zk (k := k) (a := 0) hk (by decide)) (zk (k := n) (a := 0) hn (by decide)) (Nat.zero_le _)) rfl rfl rfl ?_
      rcases oi e with ⟨c11, e⟩ | ⟨c11, e⟩
      · refine z_if_neT (tgt := 42) E dX8_matches_37 rfl (zb_t c11) ?_
        refine z_iinc (v := (v3 + (1 : Int32))) (lv2 := [(3, .int (v3 + (1 : Int32))), (0, .ref v0), (1, .ref v1)]) E 2 dX8_matches_42 rfl (congrArg (v3 + ·) ic_1) (by decide) rfl ?_
        refine z_goto (tgt := 20) E dX8_matches_45 rfl ?_
        exact z_sub [1, 2, 0] rfl (ih _ _ _ _ e M kk)
      · refine z_if_neF (tgt := 42) E dX8_matches_37 rfl (zb_nt c11) ?_
        refine z_iconst E dX8_matches_40 ic_0 ?_
        have M := M _ (Option.some.inj e).symm
        exact z_iret E M dX8_matches_41 rfl rfl rfl rfl (zk (k := k) (a := 0) hk (by decide)) (zk (k := n) (a := 0) hn (by decide))
noncomputable def f_X8_matches (h : PH) (a0 : Nat) (a1 : Nat) (a2 : Int32) : Option (Bool × PH) :=
  (wr h a0 10 8 (.int a2)).bind fun h1 =>
  (wr h1 a0 10 10 (.int (0 : Int32))).bind fun h3 =>
  (rdR h3 a0 10 9).bind fun x5 =>
  (f_J7_fill_53178 h3 x5 (0 : Int32)).bind fun p7 =>
  (f_X8_matches_L20 FV p7 a0 a1 (0 : Int32)).bind fun s9 =>
  Sum.elim (fun q11 => some q11) (fun t12 =>
    some (true, t12)) s9
theorem b_X8_matches {X : PX} (E : z_E X cX8_matches RX8 "matches" 4 rmX8_matches (some .boolean)) (T0 : z_T0 X) {h : PH} {a0 : Nat} {a1 : Nat} {a2 : Int32} {r : (Bool × PH)} (e : f_X8_matches h a0 a1 a2 = some r) (M : z_M X rmX8_matches.cells rmX8_matches.slots (.inr (some (.int (zb r.1)))) r.2) : WP X 4 0 0 0 [(0, .ref a0), (1, .ref a1), (2, .int a2)] [] h := by
  unfold f_X8_matches at e
  refine z_aload_n E 0 dX8_matches_0 rfl ?_
  refine z_iload_n E 2 dX8_matches_1 rfl ?_
  obtain ⟨h1, e2, e⟩ := ob e
  refine z_putI E fp_X8_49 (Or.inl rfl) dX8_matches_2 e2 ?_
  refine z_aload_n E 0 dX8_matches_5 rfl ?_
  refine z_iconst E dX8_matches_6 ic_0 ?_
  obtain ⟨h3, e4, e⟩ := ob e
  refine z_putI E fp_X8_94 (Or.inl rfl) dX8_matches_7 e4 ?_
  refine z_aload_n E 0 dX8_matches_10 rfl ?_
  obtain ⟨x5, e6, e⟩ := ob e
  refine z_getR E fl_X8_32 dX8_matches_11 e6 ?_
  refine z_iconst E dX8_matches_14 ic_0 ?_
  obtain ⟨p7, e8, e⟩ := ob e
  refine z_kV2 (st := []) (av := [.ref x5, .int (0 : Int32)]) E 0 0 (z_rS (st := []) (av := [.ref x5, .int (0 : Int32)]) E Y_J7_fill_53178 k_X8_97 (c_J7_fill_53178 (z_El E) e8) dX8_matches_15 rfl rfl (by decide) (by decide) (by decide) (by decide) (Nat.zero_le _)) rfl rfl rfl ?_
  refine z_iconst E dX8_matches_18 ic_0 ?_
  refine z_istore_n (lv2 := [(3, .int (0 : Int32)), (0, .ref a0), (1, .ref a1), (2, .int a2)]) E dX8_matches_19 (by decide) rfl ?_
  obtain ⟨s9, e10, e⟩ := ob e
  refine z_sub [1, 2, 0] rfl (b_X8_matches_L20 E T0 (by decide) (by decide) FV _ _ _ _ e10 (fun q11 c13 => ?_) (fun t12 c13 => ?_))
  · have e := os_l e c13
    obtain rfl := Option.some.inj e
    exact M
  · have e := os_r e c13
    refine z_iconst E dX8_matches_48 ic_1 ?_
    obtain rfl := Option.some.inj e
    exact z_iret E M dX8_matches_49 rfl rfl rfl rfl (by decide) (by decide)
theorem c_X8_matches {l : Launch} (hl : l.stackTraces = false) {h : PH} {a0 : Nat} {a1 : Nat} {a2 : Int32} {r : (Bool × PH)} (e : f_X8_matches h a0 a1 a2 = some r) : CMet l yX8_matches (z_W yX8_matches cX8_matches 4 (some .boolean)) rmX8_matches h [.ref a0, .ref a1, .int a2] (.inr (some (.int (zb r.1)))) r.2 :=
  z_met hl Y_X8_matches (by decide +kernel) (Nat.le_of_ble_eq_true rfl) (fun X hX E T0 M => b_X8_matches E T0 e M)
abbrev rmX8_addCommand : Room := { frames := 0, cells := 0, slots := 0, locals := 0 }
noncomputable def f_X8_addCommand (h : PH) (a0 : Nat) (a1 : Int32) : Option PH :=
  (rdI h a0 10 3).bind fun x1 =>
  if (15 : Int32) ≤ x1 then
    some h
  else
    (rdR h a0 10 4).bind fun x4 =>
    (rdI h a0 10 3).bind fun x6 =>
    (asI .int h x4 x6 a1).bind fun h8 =>
    (rdR h8 a0 10 5).bind fun x10 =>
    (rdI h8 a0 10 3).bind fun x12 =>
    (rdR h8 a0 10 9).bind fun x14 =>
    (alI .int h8 x14 (0 : Int32)).bind fun x16 =>
    (asI .int h8 x10 x12 x16).bind fun h18 =>
    (rdR h18 a0 10 6).bind fun x20 =>
    (rdI h18 a0 10 3).bind fun x22 =>
    (rdR h18 a0 10 9).bind fun x24 =>
    (alI .int h18 x24 (1 : Int32)).bind fun x26 =>
    (asI .int h18 x20 x22 x26).bind fun h28 =>
    (rdR h28 a0 10 7).bind fun x30 =>
    (rdI h28 a0 10 3).bind fun x32 =>
    (rdR h28 a0 10 9).bind fun x34 =>
    (alI .int h28 x34 (2 : Int32)).bind fun x36 =>
    (asI .int h28 x30 x32 x36).bind fun h38 =>
    (rdI h38 a0 10 3).bind fun x40 =>
    (wr h38 a0 10 3 (.int (x40 + (1 : Int32)))).bind fun h42 =>
    some h42
theorem b_X8_addCommand {X : PX} (E : z_E X cX8_addCommand RX8 "addCommand" 2 rmX8_addCommand none) (T0 : z_T0 X) {h : PH} {a0 : Nat} {a1 : Int32} {r : PH} (e : f_X8_addCommand h a0 a1 = some r) (M : z_M X rmX8_addCommand.cells rmX8_addCommand.slots (.inr none) r) : WP X 2 0 0 0 [(0, .ref a0), (1, .int a1)] [] h := by
  unfold f_X8_addCommand at e
  refine z_aload_n E 0 dX8_addCommand_0 rfl ?_
  obtain ⟨x1, e2, e⟩ := ob e
  refine z_getI E fl_X8_42 dX8_addCommand_1 e2 ?_
  refine z_bipush E dX8_addCommand_4 bp_15 ?_
  rcases oi e with ⟨c3, e⟩ | ⟨c3, e⟩
  · refine z_icmp_geT (tgt := 74) E dX8_addCommand_6 rfl c3 ?_
    obtain rfl := Option.some.inj e
    exact z_vret E M dX8_addCommand_74 rfl rfl rfl (by decide) (by decide)
  · refine z_icmp_geF (tgt := 74) E dX8_addCommand_6 rfl c3 ?_
    refine z_aload_n E 0 dX8_addCommand_9 rfl ?_
    obtain ⟨x4, e5, e⟩ := ob e
    refine z_getR E fl_X8_19 dX8_addCommand_10 e5 ?_
    refine z_aload_n E 0 dX8_addCommand_13 rfl ?_
    obtain ⟨x6, e7, e⟩ := ob e
    refine z_getI E fl_X8_42 dX8_addCommand_14 e7 ?_
    refine z_iload_n E 1 dX8_addCommand_17 rfl ?_
    obtain ⟨h8, e9, e⟩ := ob e
    refine z_iast E dX8_addCommand_18 e9 ?_
    refine z_aload_n E 0 dX8_addCommand_19 rfl ?_
    obtain ⟨x10, e11, e⟩ := ob e
    refine z_getR E fl_X8_23 dX8_addCommand_20 e11 ?_
    refine z_aload_n E 0 dX8_addCommand_23 rfl ?_
    obtain ⟨x12, e13, e⟩ := ob e
    refine z_getI E fl_X8_42 dX8_addCommand_24 e13 ?_
    refine z_aload_n E 0 dX8_addCommand_27 rfl ?_
    obtain ⟨x14, e15, e⟩ := ob e
    refine z_getR E fl_X8_32 dX8_addCommand_28 e15 ?_
    refine z_iconst E dX8_addCommand_31 ic_0 ?_
    obtain ⟨x16, e17, e⟩ := ob e
    refine z_iald E dX8_addCommand_32 e17 ?_
    obtain ⟨h18, e19, e⟩ := ob e
    refine z_iast E dX8_addCommand_33 e19 ?_
    refine z_aload_n E 0 dX8_addCommand_34 rfl ?_
    obtain ⟨x20, e21, e⟩ := ob e
    refine z_getR E fl_X8_26 dX8_addCommand_35 e21 ?_
    refine z_aload_n E 0 dX8_addCommand_38 rfl ?_
    obtain ⟨x22, e23, e⟩ := ob e
    refine z_getI E fl_X8_42 dX8_addCommand_39 e23 ?_
    refine z_aload_n E 0 dX8_addCommand_42 rfl ?_
    obtain ⟨x24, e25, e⟩ := ob e
    refine z_getR E fl_X8_32 dX8_addCommand_43 e25 ?_
    refine z_iconst E dX8_addCommand_46 ic_1 ?_
    obtain ⟨x26, e27, e⟩ := ob e
    refine z_iald E dX8_addCommand_47 e27 ?_
    obtain ⟨h28, e29, e⟩ := ob e
    refine z_iast E dX8_addCommand_48 e29 ?_
    refine z_aload_n E 0 dX8_addCommand_49 rfl ?_
    obtain ⟨x30, e31, e⟩ := ob e
    refine z_getR E fl_X8_29 dX8_addCommand_50 e31 ?_
    refine z_aload_n E 0 dX8_addCommand_53 rfl ?_
    obtain ⟨x32, e33, e⟩ := ob e
    refine z_getI E fl_X8_42 dX8_addCommand_54 e33 ?_
    refine z_aload_n E 0 dX8_addCommand_57 rfl ?_
    obtain ⟨x34, e35, e⟩ := ob e
    refine z_getR E fl_X8_32 dX8_addCommand_58 e35 ?_
    refine z_iconst E dX8_addCommand_61 ic_2 ?_
    obtain ⟨x36, e37, e⟩ := ob e
    refine z_iald E dX8_addCommand_62 e37 ?_
    obtain ⟨h38, e39, e⟩ := ob e
    refine z_iast E dX8_addCommand_63 e39 ?_
    refine z_aload_n E 0 dX8_addCommand_64 rfl ?_
    refine z_dup E dX8_addCommand_65 rfl ?_
    obtain ⟨x40, e41, e⟩ := ob e
    refine z_getI E fl_X8_42 dX8_addCommand_66 e41 ?_
    refine z_iconst E dX8_addCommand_69 ic_1 ?_
    refine z_iadd E dX8_addCommand_70 ?_
    obtain ⟨h42, e43, e⟩ := ob e
    refine z_putI E fp_X8_42 (Or.inl rfl) dX8_addCommand_71 e43 ?_
    obtain rfl := Option.some.inj e
    exact z_vret E M dX8_addCommand_74 rfl rfl rfl (by decide) (by decide)
theorem c_X8_addCommand {l : Launch} (hl : l.stackTraces = false) {h : PH} {a0 : Nat} {a1 : Int32} {r : PH} (e : f_X8_addCommand h a0 a1 = some r) : CMet l yX8_addCommand (z_W yX8_addCommand cX8_addCommand 2 none) rmX8_addCommand h [.ref a0, .int a1] (.inr none) r :=
  z_met hl Y_X8_addCommand (by decide +kernel) (Nat.le_of_ble_eq_true rfl) (fun X hX E T0 M => b_X8_addCommand E T0 e M)
abbrev rmX8_parseCommand : Room := { frames := 12, cells := 0, slots := 0, locals := 226 }
noncomputable def f_X8_parseCommand_L4 : Nat → PH → Nat → Int32 → Int32 → Int32 → Option ((Bool × PH) ⊕ (Int32 × PH))
  | 0, _, _, _, _, _ => none
  | fu + 1, h, v0, v1, v2, v3 =>
    if (12 : Int32) ≤ v3 then
      some (Sum.inr (v2, h))
    else
      (f_X8_templateOf v3).bind fun p2 =>
      (gd h v0 10).bind fun _ =>
      (f_X8_matches h v0 p2 v1).bind fun p5 =>
      if p5.1 = false then
        (rdI p5.2 v0 10 8).bind fun x8 =>
        f_X8_parseCommand_L4 fu p5.2 v0 v1 (f_J9_max_7cf53 v2 x8) (v3 + (1 : Int32))
      else
        (gd p5.2 v0 10).bind fun _ =>
        (f_X8_addCommand p5.2 v0 v3).bind fun p11 =>
        some (Sum.inl (true, p11))
theorem b_X8_parseCommand_L4 {X : PX} (E : z_E X cX8_parseCommand RX8 "parseCommand" 4 rmX8_parseCommand (some .boolean)) (T0 : z_T0 X) {k n : Nat} (hk : k + 0 ≤ rmX8_parseCommand.cells) (hn : n + 0 ≤ rmX8_parseCommand.slots) {s : ((Bool × PH) ⊕ (Int32 × PH))} : ∀ (fu : Nat) (h : PH) (v0 : Nat) (v1 : Int32) (v2 : Int32) (v3 : Int32) (e : f_X8_parseCommand_L4 fu h v0 v1 v2 v3 = some s) (M : ∀ q, s = Sum.inl q → z_M X rmX8_parseCommand.cells rmX8_parseCommand.slots (.inr (some (.int (zb q.1)))) q.2) (kk : ∀ t, s = Sum.inr t → WP X 4 k n 44 [(0, .ref v0), (2, .int t.1)] [] t.2), WP X 4 k n 4 [(0, .ref v0), (1, .int v1), (2, .int v2), (3, .int v3)] [] h := by
  intro fu
  induction fu with
  | zero => intro h v0 v1 v2 v3 e; exact absurd (show (none : Option ((Bool × PH) ⊕ (Int32 × PH))) = some s from e) (by intro z; cases z)
  | succ fu ih =>
    intro h v0 v1 v2 v3 e M kk
    unfold f_X8_parseCommand_L4 at e
    refine z_iload_n E 3 dX8_parseCommand_4 rfl ?_
    refine z_bipush E dX8_parseCommand_5 bp_12 ?_
    rcases oi e with ⟨c1, e⟩ | ⟨c1, e⟩
    · refine z_icmp_geT (tgt := 44) E dX8_parseCommand_7 rfl c1 ?_
      obtain rfl := Option.some.inj e
      exact z_sub [0, 2] rfl (kk _ rfl)
    · refine z_icmp_geF (tgt := 44) E dX8_parseCommand_7 rfl c1 ?_
      refine z_aload_n E 0 dX8_parseCommand_10 rfl ?_
      refine z_iload_n E 3 dX8_parseCommand_11 rfl ?_
      obtain ⟨p2, e3, e⟩ := ob e
      refine z_kR2 (st := [.ref v0]) (av := [.int v3]) E k n (z_rS (st := [.ref v0]) (av := [.int v3]) E Y_X8_templateOf k_X8_52 (c_X8_templateOf (z_El E) e3) dX8_parseCommand_12 rfl rfl (by decide) (by decide) (zk (k := k) (a := 0) hk (by decide)) (zk (k := n) (a := 0) hn (by decide)) (Nat.le_of_ble_eq_true rfl)) rfl rfl rfl ?_
      refine z_iload_n E 1 dX8_parseCommand_15 rfl ?_
      obtain ⟨_, e4, e⟩ := ob e
      obtain ⟨p5, e6, e⟩ := ob e
      refine z_kR2 (st := []) (av := [.ref v0, .ref p2, .int v1]) E k n (z_rV (st := []) (av := [.ref p2, .int v1]) E Y_X8_matches k_X8_56 (ci := 10) rfl (c_X8_matches (z_El E) e6) dX8_parseCommand_16 e4 rfl rfl (by decide) (by decide) (zk (k := k) (a := 0) hk (by decide)) (zk (k := n) (a := 0) hn (by decide)) (Nat.zero_le _)) rfl rfl rfl ?_
      rcases oi e with ⟨c7, e⟩ | ⟨c7, e⟩
      · refine z_if_eqT (tgt := 29) E dX8_parseCommand_19 rfl (zb_f c7) ?_
        refine z_iload_n E 2 dX8_parseCommand_29 rfl ?_
        refine z_aload_n E 0 dX8_parseCommand_30 rfl ?_
        obtain ⟨x8, e9, e⟩ := ob e
        refine z_getI E fl_X8_49 dX8_parseCommand_31 e9 ?_
        refine z_kR2 (st := []) (av := [.int v2, .int x8]) E k n (z_rS (st := []) (av := [.int v2, .int x8]) E Y_J9_max_7cf53 k_X8_64 (c_J9_max_7cf53 (l := z_l X) (h := p5.2) (z_El E) v2 x8) dX8_parseCommand_34 rfl rfl (by decide) (by decide) (zk (k := k) (a := 0) hk (by decide)) (zk (k := n) (a := 0) hn (by decide)) (Nat.zero_le _)) rfl rfl rfl ?_
        refine z_istore_n (lv2 := [(2, .int (f_J9_max_7cf53 v2 x8)), (0, .ref v0), (1, .int v1), (3, .int v3)]) E dX8_parseCommand_37 (by decide) rfl ?_
        refine z_iinc (v := (v3 + (1 : Int32))) (lv2 := [(3, .int (v3 + (1 : Int32))), (2, .int (f_J9_max_7cf53 v2 x8)), (0, .ref v0), (1, .int v1)]) E 3 dX8_parseCommand_38 rfl (congrArg (v3 + ·) ic_1) (by decide) rfl ?_
        refine z_goto (tgt := 4) E dX8_parseCommand_41 rfl ?_
        exact z_sub [2, 3, 1, 0] rfl (ih _ _ _ _ _ e M kk)
      · refine z_if_eqF (tgt := 29) E dX8_parseCommand_19 rfl (zb_nf c7) ?_
        refine z_aload_n E 0 dX8_parseCommand_22 rfl ?_
        refine z_iload_n E 3 dX8_parseCommand_23 rfl ?_
        obtain ⟨_, e10, e⟩ := ob e
        obtain ⟨p11, e12, e⟩ := ob e
        refine z_kV2 (st := []) (av := [.ref v0, .int v3]) E k n (z_rV (st := []) (av := [.int v3]) E Y_X8_addCommand k_X8_60 (ci := 10) rfl (c_X8_addCommand (z_El E) e12) dX8_parseCommand_24 e10 rfl rfl (by decide) (by decide) (zk (k := k) (a := 0) hk (by decide)) (zk (k := n) (a := 0) hn (by decide)) (Nat.zero_le _)) rfl rfl rfl ?_
        refine z_iconst E dX8_parseCommand_27 ic_1 ?_
        have M := M _ (Option.some.inj e).symm
        exact z_iret E M dX8_parseCommand_28 rfl rfl rfl rfl (zk (k := k) (a := 0) hk (by decide)) (zk (k := n) (a := 0) hn (by decide))
noncomputable def f_X8_parseCommand (h : PH) (a0 : Nat) (a1 : Int32) : Option (Bool × PH) :=
  (f_X8_parseCommand_L4 FV h a0 a1 a1 (0 : Int32)).bind fun s1 =>
  Sum.elim (fun q3 => some q3) (fun t4 =>
    (wr t4.2 a0 10 2 (.int t4.1)).bind fun h6 =>
    some (false, h6)) s1
theorem b_X8_parseCommand {X : PX} (E : z_E X cX8_parseCommand RX8 "parseCommand" 4 rmX8_parseCommand (some .boolean)) (T0 : z_T0 X) {h : PH} {a0 : Nat} {a1 : Int32} {r : (Bool × PH)} (e : f_X8_parseCommand h a0 a1 = some r) (M : z_M X rmX8_parseCommand.cells rmX8_parseCommand.slots (.inr (some (.int (zb r.1)))) r.2) : WP X 4 0 0 0 [(0, .ref a0), (1, .int a1)] [] h := by
  unfold f_X8_parseCommand at e
  refine z_iload_n E 1 dX8_parseCommand_0 rfl ?_
  refine z_istore_n (lv2 := [(2, .int a1), (0, .ref a0), (1, .int a1)]) E dX8_parseCommand_1 (by decide) rfl ?_
  refine z_iconst E dX8_parseCommand_2 ic_0 ?_
  refine z_istore_n (lv2 := [(3, .int (0 : Int32)), (2, .int a1), (0, .ref a0), (1, .int a1)]) E dX8_parseCommand_3 (by decide) rfl ?_
  obtain ⟨s1, e2, e⟩ := ob e
  refine z_sub [2, 3, 1, 0] rfl (b_X8_parseCommand_L4 E T0 (by decide) (by decide) FV _ _ _ _ _ e2 (fun q3 c5 => ?_) (fun t4 c5 => ?_))
  · have e := os_l e c5
    obtain rfl := Option.some.inj e
    exact M
  · have e := os_r e c5
    refine z_aload_n E 0 dX8_parseCommand_44 rfl ?_
    refine z_iload_n E 1 dX8_parseCommand_45 rfl ?_
    obtain ⟨h6, e7, e⟩ := ob e
    refine z_putI E fp_X8_15 (Or.inl rfl) dX8_parseCommand_46 e7 ?_
    refine z_iconst E dX8_parseCommand_49 ic_0 ?_
    obtain rfl := Option.some.inj e
    exact z_iret E M dX8_parseCommand_50 rfl rfl rfl rfl (by decide) (by decide)
theorem c_X8_parseCommand {l : Launch} (hl : l.stackTraces = false) {h : PH} {a0 : Nat} {a1 : Int32} {r : (Bool × PH)} (e : f_X8_parseCommand h a0 a1 = some r) : CMet l yX8_parseCommand (z_W yX8_parseCommand cX8_parseCommand 4 (some .boolean)) rmX8_parseCommand h [.ref a0, .int a1] (.inr (some (.int (zb r.1)))) r.2 :=
  z_met hl Y_X8_parseCommand (by decide +kernel) (Nat.le_of_ble_eq_true rfl) (fun X hX E T0 M => b_X8_parseCommand E T0 e M)
abbrev rmX8_parse : Room := { frames := 13, cells := 0, slots := 0, locals := 249 }
noncomputable def f_X8_parse_L9 : Nat → PH → Nat → Int32 → Int32 → Option ((Bool × PH) ⊕ PH)
  | 0, _, _, _, _ => none
  | fu + 1, h, v0, v1, v2 =>
    if (15 : Int32) ≤ v2 then
      some (Sum.inr h)
    else
      (gd h v0 10).bind fun _ =>
      (f_X8_parseCommand h v0 v1).bind fun p3 =>
      if p3.1 = true then
        (rdI p3.2 v0 10 8).bind fun x6 =>
        (rdI p3.2 v0 10 1).bind fun x8 =>
        if ¬ x6 = x8 then
          (rdR p3.2 v0 10 0).bind fun x11 =>
          (rdI p3.2 v0 10 8).bind fun x13 =>
          (alI .char p3.2 x11 x13).bind fun x15 =>
          if x15 = (59 : Int32) then
            (rdI p3.2 v0 10 8).bind fun x18 =>
            f_X8_parse_L9 fu p3.2 v0 (x18 + (1 : Int32)) (v2 + (1 : Int32))
          else
            (rdI p3.2 v0 10 8).bind fun x20 =>
            (wr p3.2 v0 10 2 (.int x20)).bind fun h22 =>
            some (Sum.inl (false, h22))
        else
          some (Sum.inl (true, p3.2))
      else
        some (Sum.inl (false, p3.2))
theorem b_X8_parse_L9 {X : PX} (E : z_E X cX8_parse RX8 "parse" 3 rmX8_parse (some .boolean)) (T0 : z_T0 X) {k n : Nat} (hk : k + 0 ≤ rmX8_parse.cells) (hn : n + 0 ≤ rmX8_parse.slots) {s : ((Bool × PH) ⊕ PH)} : ∀ (fu : Nat) (h : PH) (v0 : Nat) (v1 : Int32) (v2 : Int32) (e : f_X8_parse_L9 fu h v0 v1 v2 = some s) (M : ∀ q, s = Sum.inl q → z_M X rmX8_parse.cells rmX8_parse.slots (.inr (some (.int (zb q.1)))) q.2) (kk : ∀ t, s = Sum.inr t → WP X 3 k n 75 [(0, .ref v0)] [] t), WP X 3 k n 9 [(0, .ref v0), (1, .int v1), (2, .int v2)] [] h := by
  intro fu
  induction fu with
  | zero => intro h v0 v1 v2 e; exact absurd (show (none : Option ((Bool × PH) ⊕ PH)) = some s from e) (by intro z; cases z)
  | succ fu ih =>
    intro h v0 v1 v2 e M kk
    unfold f_X8_parse_L9 at e
    refine z_iload_n E 2 dX8_parse_9 rfl ?_
    refine z_bipush E dX8_parse_10 bp_15 ?_
    rcases oi e with ⟨c1, e⟩ | ⟨c1, e⟩
    · refine z_icmp_geT (tgt := 75) E dX8_parse_12 rfl c1 ?_
      obtain rfl := Option.some.inj e
      exact z_sub [0] rfl (kk _ rfl)
    · refine z_icmp_geF (tgt := 75) E dX8_parse_12 rfl c1 ?_
      refine z_aload_n E 0 dX8_parse_15 rfl ?_
      refine z_iload_n E 1 dX8_parse_16 rfl ?_
      obtain ⟨_, e2, e⟩ := ob e
      obtain ⟨p3, e4, e⟩ := ob e
      refine z_kR2 (st := []) (av := [.ref v0, .int v1]) E k n (z_rV (st := []) (av := [.int v1]) E Y_X8_parseCommand k_X8_45 (ci := 10) rfl (c_X8_parseCommand (z_El E) e4) dX8_parse_17 e2 rfl rfl (by decide) (by decide) (zk (k := k) (a := 0) hk (by decide)) (zk (k := n) (a := 0) hn (by decide)) (Nat.zero_le _)) rfl rfl rfl ?_
      rcases oi e with ⟨c5, e⟩ | ⟨c5, e⟩
      · refine z_if_neT (tgt := 25) E dX8_parse_20 rfl (zb_t c5) ?_
        refine z_aload_n E 0 dX8_parse_25 rfl ?_
        obtain ⟨x6, e7, e⟩ := ob e
        refine z_getI E fl_X8_49 dX8_parse_26 e7 ?_
        refine z_aload_n E 0 dX8_parse_29 rfl ?_
        obtain ⟨x8, e9, e⟩ := ob e
        refine z_getI E fl_X8_35 dX8_parse_30 e9 ?_
        rcases oi e with ⟨c10, e⟩ | ⟨c10, e⟩
        · refine z_icmp_neT (tgt := 38) E dX8_parse_33 rfl c10 ?_
          refine z_aload_n E 0 dX8_parse_38 rfl ?_
          obtain ⟨x11, e12, e⟩ := ob e
          refine z_getR E fl_X8_9 dX8_parse_39 e12 ?_
          refine z_aload_n E 0 dX8_parse_42 rfl ?_
          obtain ⟨x13, e14, e⟩ := ob e
          refine z_getI E fl_X8_49 dX8_parse_43 e14 ?_
          obtain ⟨x15, e16, e⟩ := ob e
          refine z_cald E dX8_parse_46 e16 ?_
          refine z_bipush E dX8_parse_47 bp_59 ?_
          rcases oi e with ⟨c17, e⟩ | ⟨c17, e⟩
          · refine z_icmp_eqT (tgt := 62) E dX8_parse_49 rfl c17 ?_
            refine z_aload_n E 0 dX8_parse_62 rfl ?_
            obtain ⟨x18, e19, e⟩ := ob e
            refine z_getI E fl_X8_49 dX8_parse_63 e19 ?_
            refine z_iconst E dX8_parse_66 ic_1 ?_
            refine z_iadd E dX8_parse_67 ?_
            refine z_istore_n (lv2 := [(1, .int (x18 + (1 : Int32))), (0, .ref v0), (2, .int v2)]) E dX8_parse_68 (by decide) rfl ?_
            refine z_iinc (v := (v2 + (1 : Int32))) (lv2 := [(2, .int (v2 + (1 : Int32))), (1, .int (x18 + (1 : Int32))), (0, .ref v0)]) E 2 dX8_parse_69 rfl (congrArg (v2 + ·) ic_1) (by decide) rfl ?_
            refine z_goto (tgt := 9) E dX8_parse_72 rfl ?_
            exact z_sub [2, 1, 0] rfl (ih _ _ _ _ e M kk)
          · refine z_icmp_eqF (tgt := 62) E dX8_parse_49 rfl c17 ?_
            refine z_aload_n E 0 dX8_parse_52 rfl ?_
            refine z_aload_n E 0 dX8_parse_53 rfl ?_
            obtain ⟨x20, e21, e⟩ := ob e
            refine z_getI E fl_X8_49 dX8_parse_54 e21 ?_
            obtain ⟨h22, e23, e⟩ := ob e
            refine z_putI E fp_X8_15 (Or.inl rfl) dX8_parse_57 e23 ?_
            refine z_iconst E dX8_parse_60 ic_0 ?_
            have M := M _ (Option.some.inj e).symm
            exact z_iret E M dX8_parse_61 rfl rfl rfl rfl (zk (k := k) (a := 0) hk (by decide)) (zk (k := n) (a := 0) hn (by decide))
        · refine z_icmp_neF (tgt := 38) E dX8_parse_33 rfl (Classical.not_not.mp c10) ?_
          refine z_iconst E dX8_parse_36 ic_1 ?_
          have M := M _ (Option.some.inj e).symm
          exact z_iret E M dX8_parse_37 rfl rfl rfl rfl (zk (k := k) (a := 0) hk (by decide)) (zk (k := n) (a := 0) hn (by decide))
      · refine z_if_neF (tgt := 25) E dX8_parse_20 rfl (zb_nt c5) ?_
        refine z_iconst E dX8_parse_23 ic_0 ?_
        have M := M _ (Option.some.inj e).symm
        exact z_iret E M dX8_parse_24 rfl rfl rfl rfl (zk (k := k) (a := 0) hk (by decide)) (zk (k := n) (a := 0) hn (by decide))
noncomputable def f_X8_parse (h : PH) (a0 : Nat) : Option (Bool × PH) :=
  (wr h a0 10 3 (.int (0 : Int32))).bind fun h1 =>
  (f_X8_parse_L9 FV h1 a0 (0 : Int32) (0 : Int32)).bind fun s3 =>
  Sum.elim (fun q5 => some q5) (fun t6 =>
    (rdI t6 a0 10 1).bind fun x8 =>
    (wr t6 a0 10 2 (.int x8)).bind fun h10 =>
    some (false, h10)) s3
theorem b_X8_parse {X : PX} (E : z_E X cX8_parse RX8 "parse" 3 rmX8_parse (some .boolean)) (T0 : z_T0 X) {h : PH} {a0 : Nat} {r : (Bool × PH)} (e : f_X8_parse h a0 = some r) (M : z_M X rmX8_parse.cells rmX8_parse.slots (.inr (some (.int (zb r.1)))) r.2) : WP X 3 0 0 0 [(0, .ref a0)] [] h := by
  unfold f_X8_parse at e
  refine z_aload_n E 0 dX8_parse_0 rfl ?_
  refine z_iconst E dX8_parse_1 ic_0 ?_
  obtain ⟨h1, e2, e⟩ := ob e
  refine z_putI E fp_X8_42 (Or.inl rfl) dX8_parse_2 e2 ?_
  refine z_iconst E dX8_parse_5 ic_0 ?_
  refine z_istore_n (lv2 := [(1, .int (0 : Int32)), (0, .ref a0)]) E dX8_parse_6 (by decide) rfl ?_
  refine z_iconst E dX8_parse_7 ic_0 ?_
  refine z_istore_n (lv2 := [(2, .int (0 : Int32)), (1, .int (0 : Int32)), (0, .ref a0)]) E dX8_parse_8 (by decide) rfl ?_
  obtain ⟨s3, e4, e⟩ := ob e
  refine z_sub [2, 1, 0] rfl (b_X8_parse_L9 E T0 (by decide) (by decide) FV _ _ _ _ e4 (fun q5 c7 => ?_) (fun t6 c7 => ?_))
  · have e := os_l e c7
    obtain rfl := Option.some.inj e
    exact M
  · have e := os_r e c7
    refine z_aload_n E 0 dX8_parse_75 rfl ?_
    refine z_aload_n E 0 dX8_parse_76 rfl ?_
    obtain ⟨x8, e9, e⟩ := ob e
    refine z_getI E fl_X8_35 dX8_parse_77 e9 ?_
    obtain ⟨h10, e11, e⟩ := ob e
    refine z_putI E fp_X8_15 (Or.inl rfl) dX8_parse_80 e11 ?_
    refine z_iconst E dX8_parse_83 ic_0 ?_
    obtain rfl := Option.some.inj e
    exact z_iret E M dX8_parse_84 rfl rfl rfl rfl (by decide) (by decide)
theorem c_X8_parse {l : Launch} (hl : l.stackTraces = false) {h : PH} {a0 : Nat} {r : (Bool × PH)} (e : f_X8_parse h a0 = some r) : CMet l yX8_parse (z_W yX8_parse cX8_parse 3 (some .boolean)) rmX8_parse h [.ref a0] (.inr (some (.int (zb r.1)))) r.2 :=
  z_met hl Y_X8_parse (by decide +kernel) (Nat.le_of_ble_eq_true rfl) (fun X hX E T0 M => b_X8_parse E T0 e M)
abbrev rmX8_empty : Room := { frames := 0, cells := 0, slots := 0, locals := 0 }
noncomputable def f_X8_empty (h : PH) (a0 : Nat) : Option PH :=
  (wr h a0 10 1 (.int (0 : Int32))).bind fun h1 =>
  some h1
theorem b_X8_empty {X : PX} (E : z_E X cX8_empty RX8 "empty" 1 rmX8_empty none) (T0 : z_T0 X) {h : PH} {a0 : Nat} {r : PH} (e : f_X8_empty h a0 = some r) (M : z_M X rmX8_empty.cells rmX8_empty.slots (.inr none) r) : WP X 1 0 0 0 [(0, .ref a0)] [] h := by
  unfold f_X8_empty at e
  refine z_aload_n E 0 dX8_empty_0 rfl ?_
  refine z_iconst E dX8_empty_1 ic_0 ?_
  obtain ⟨h1, e2, e⟩ := ob e
  refine z_putI E fp_X8_35 (Or.inl rfl) dX8_empty_2 e2 ?_
  obtain rfl := Option.some.inj e
  exact z_vret E M dX8_empty_5 rfl rfl rfl (by decide) (by decide)
theorem c_X8_empty {l : Launch} (hl : l.stackTraces = false) {h : PH} {a0 : Nat} {r : PH} (e : f_X8_empty h a0 = some r) : CMet l yX8_empty (z_W yX8_empty cX8_empty 1 none) rmX8_empty h [.ref a0] (.inr none) r :=
  z_met hl Y_X8_empty (by decide +kernel) (Nat.le_of_ble_eq_true rfl) (fun X hX E T0 M => b_X8_empty E T0 e M)
abbrev rmX9_runCommand : Room := { frames := 5, cells := 0, slots := 0, locals := 121 }
noncomputable def f_X9_runCommand (h : PH) (a0 : Nat) (a1 : Int32) : Option (Int32 × PH) :=
  (rdR h a0 11 5).bind fun x1 =>
  (rdR h x1 10 4).bind fun x3 =>
  (alI .int h x3 a1).bind fun x5 =>
  (rdR h a0 11 5).bind fun x7 =>
  (rdR h x7 10 5).bind fun x9 =>
  (alI .int h x9 a1).bind fun x11 =>
  (rdR h a0 11 5).bind fun x13 =>
  (rdR h x13 10 6).bind fun x15 =>
  (alI .int h x15 a1).bind fun x17 =>
  (rdR h a0 11 5).bind fun x19 =>
  (rdR h x19 10 7).bind fun x21 =>
  (alI .int h x21 a1).bind fun x23 =>
  (rdR h a0 11 0).bind fun x25 =>
  (f_X5_judge h x25 x5 x11 x17 x23).bind fun p27 =>
  if ¬ p27 = 0 then
    some (p27, h)
  else
    (rdR h a0 11 0).bind fun x30 =>
    (rdR h a0 11 3).bind fun x32 =>
    (f_X1_perform h x30 x32 x5 x11 x17 x23).bind fun p34 =>
    some (p27, p34.2)
theorem b_X9_runCommand {X : PX} (E : z_E X cX9_runCommand RX9 "runCommand" 7 rmX9_runCommand (some .int)) (T0 : z_T0 X) {h : PH} {a0 : Nat} {a1 : Int32} {r : (Int32 × PH)} (e : f_X9_runCommand h a0 a1 = some r) (M : z_M X rmX9_runCommand.cells rmX9_runCommand.slots (.inr (some (.int r.1))) r.2) : WP X 7 0 0 0 [(0, .ref a0), (1, .int a1)] [] h := by
  unfold f_X9_runCommand at e
  refine z_aload_n E 0 dX9_runCommand_0 rfl ?_
  obtain ⟨x1, e2, e⟩ := ob e
  refine z_getR E fl_X9_43 dX9_runCommand_1 e2 ?_
  obtain ⟨x3, e4, e⟩ := ob e
  refine z_getR E fl_X9_340 dX9_runCommand_4 e4 ?_
  refine z_iload_n E 1 dX9_runCommand_7 rfl ?_
  obtain ⟨x5, e6, e⟩ := ob e
  refine z_iald E dX9_runCommand_8 e6 ?_
  refine z_istore_n (lv2 := [(2, .int x5), (0, .ref a0), (1, .int a1)]) E dX9_runCommand_9 (by decide) rfl ?_
  refine z_aload_n E 1 dX9_runCommand_10 rfl ?_
  obtain ⟨x7, e8, e⟩ := ob e
  refine z_getR E fl_X9_43 dX9_runCommand_11 e8 ?_
  obtain ⟨x9, e10, e⟩ := ob e
  refine z_getR E fl_X9_343 dX9_runCommand_14 e10 ?_
  refine z_iload_n E 2 dX9_runCommand_17 rfl ?_
  obtain ⟨x11, e12, e⟩ := ob e
  refine z_iald E dX9_runCommand_18 e12 ?_
  refine z_istore_n (lv2 := [(3, .int x11), (2, .int x5), (0, .ref a0), (1, .int a1)]) E dX9_runCommand_19 (by decide) rfl ?_
  refine z_aload_n E 2 dX9_runCommand_20 rfl ?_
  obtain ⟨x13, e14, e⟩ := ob e
  refine z_getR E fl_X9_43 dX9_runCommand_21 e14 ?_
  obtain ⟨x15, e16, e⟩ := ob e
  refine z_getR E fl_X9_346 dX9_runCommand_24 e16 ?_
  refine z_iload_n E 3 dX9_runCommand_27 rfl ?_
  obtain ⟨x17, e18, e⟩ := ob e
  refine z_iald E dX9_runCommand_28 e18 ?_
  refine z_istore (lv2 := [(4, .int x17), (3, .int x11), (2, .int x5), (0, .ref a0), (1, .int a1)]) E dX9_runCommand_29 (by decide) rfl ?_
  refine z_aload_n E 3 dX9_runCommand_31 rfl ?_
  obtain ⟨x19, e20, e⟩ := ob e
  refine z_getR E fl_X9_43 dX9_runCommand_32 e20 ?_
  obtain ⟨x21, e22, e⟩ := ob e
  refine z_getR E fl_X9_349 dX9_runCommand_35 e22 ?_
  refine z_iload_n E 4 dX9_runCommand_38 rfl ?_
  obtain ⟨x23, e24, e⟩ := ob e
  refine z_iald E dX9_runCommand_39 e24 ?_
  refine z_istore (lv2 := [(5, .int x23), (4, .int x17), (3, .int x11), (2, .int x5), (0, .ref a0), (1, .int a1)]) E dX9_runCommand_40 (by decide) rfl ?_
  refine z_aload_n E 4 dX9_runCommand_42 rfl ?_
  obtain ⟨x25, e26, e⟩ := ob e
  refine z_getR E fl_X9_12 dX9_runCommand_43 e26 ?_
  refine z_iload_n E 3 dX9_runCommand_46 rfl ?_
  refine z_iload_n E 2 dX9_runCommand_47 rfl ?_
  refine z_iload E 1 dX9_runCommand_48 rfl ?_
  refine z_iload E 0 dX9_runCommand_50 rfl ?_
  obtain ⟨p27, e28, e⟩ := ob e
  refine z_kR2 (st := []) (av := [.ref x25, .int x5, .int x11, .int x17, .int x23]) E 0 0 (z_rS (st := []) (av := [.ref x25, .int x5, .int x11, .int x17, .int x23]) E Y_X5_judge k_X9_313 (c_X5_judge (z_El E) e28) dX9_runCommand_52 rfl rfl (by decide) (by decide) (by decide) (by decide) (Nat.zero_le _)) rfl rfl rfl ?_
  refine z_istore (lv2 := [(6, .int p27), (5, .int x23), (4, .int x17), (3, .int x11), (2, .int x5), (0, .ref a0), (1, .int a1)]) E dX9_runCommand_55 (by decide) rfl ?_
  refine z_iload E 0 dX9_runCommand_57 rfl ?_
  rcases oi e with ⟨c29, e⟩ | ⟨c29, e⟩
  · refine z_if_neT (tgt := 80) E dX9_runCommand_59 rfl c29 ?_
    refine z_iload E 0 dX9_runCommand_80 rfl ?_
    obtain rfl := Option.some.inj e
    exact z_iret E M dX9_runCommand_82 rfl rfl rfl rfl (by decide) (by decide)
  · refine z_if_neF (tgt := 80) E dX9_runCommand_59 rfl (Classical.not_not.mp c29) ?_
    refine z_aload_n E 5 dX9_runCommand_62 rfl ?_
    obtain ⟨x30, e31, e⟩ := ob e
    refine z_getR E fl_X9_12 dX9_runCommand_63 e31 ?_
    refine z_aload_n E 5 dX9_runCommand_66 rfl ?_
    obtain ⟨x32, e33, e⟩ := ob e
    refine z_getR E fl_X9_29 dX9_runCommand_67 e33 ?_
    refine z_iload_n E 4 dX9_runCommand_70 rfl ?_
    refine z_iload_n E 3 dX9_runCommand_71 rfl ?_
    refine z_iload E 2 dX9_runCommand_72 rfl ?_
    refine z_iload E 1 dX9_runCommand_74 rfl ?_
    obtain ⟨p34, e35, e⟩ := ob e
    refine z_kR2 (st := []) (av := [.ref x30, .ref x32, .int x5, .int x11, .int x17, .int x23]) E 0 0 (z_rS (st := []) (av := [.ref x30, .ref x32, .int x5, .int x11, .int x17, .int x23]) E Y_X1_perform k_X9_326 (c_X1_perform (z_El E) e35) dX9_runCommand_76 rfl rfl (by decide) (by decide) (by decide) (by decide) (Nat.zero_le _)) rfl rfl rfl ?_
    refine z_pop E dX9_runCommand_79 rfl ?_
    refine z_iload E 0 dX9_runCommand_80 rfl ?_
    obtain rfl := Option.some.inj e
    exact z_iret E M dX9_runCommand_82 rfl rfl rfl rfl (by decide) (by decide)
theorem c_X9_runCommand {l : Launch} (hl : l.stackTraces = false) {h : PH} {a0 : Nat} {a1 : Int32} {r : (Int32 × PH)} (e : f_X9_runCommand h a0 a1 = some r) : CMet l yX9_runCommand (z_W yX9_runCommand cX9_runCommand 7 (some .int)) rmX9_runCommand h [.ref a0, .int a1] (.inr (some (.int r.1))) r.2 :=
  z_met hl Y_X9_runCommand (by decide +kernel) (Nat.le_of_ble_eq_true rfl) (fun X hX E T0 M => b_X9_runCommand E T0 e M)
