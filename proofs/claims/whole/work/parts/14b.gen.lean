abbrev rmX10_writeNote : Room := { frames := 15, cells := 0, slots := 0, locals := 316 }
noncomputable def f_X10_writeNote_L55 : Nat → PH → Nat → Int32 → Int32 → Option PH
  | 0, _, _, _, _ => none
  | fu + 1, h, v0, v1, v2 =>
    (rdR h v0 12 0).bind fun x1 =>
    (alI .int h x1 (0 : Int32)).bind fun x3 =>
    if x3 ≤ v2 then
      some h
    else
      (gd h v0 12).bind fun _ =>
      (f_X10_isCiting h v0 v1 v2).bind fun p7 =>
      if p7 = false then
        f_X10_writeNote_L55 fu h v0 v1 (v2 + (1 : Int32))
      else
        (gd h v0 12).bind fun _ =>
        (f_X10_writesBehind h v0 (62 : Int32) v2).bind fun p11 =>
        f_X10_writeNote_L55 fu p11 v0 v1 (v2 + (1 : Int32))
theorem b_X10_writeNote_L55 {X : PX} (E : z_E X cX10_writeNote RX10 "writeNote" 3 rmX10_writeNote (some .int)) (T0 : z_T0 X) {k n : Nat} (hk : k + 0 ≤ rmX10_writeNote.cells) (hn : n + 0 ≤ rmX10_writeNote.slots) {s : PH} : ∀ (fu : Nat) (h : PH) (v0 : Nat) (v1 : Int32) (v2 : Int32) (e : f_X10_writeNote_L55 fu h v0 v1 v2 = some s) (kk : WP X 3 k n 87 [(0, .ref v0)] [] s), WP X 3 k n 55 [(0, .ref v0), (1, .int v1), (2, .int v2)] [] h := by
  intro fu
  induction fu with
  | zero => intro h v0 v1 v2 e; exact absurd (show (none : Option PH) = some s from e) (by intro z; cases z)
  | succ fu ih =>
    intro h v0 v1 v2 e kk
    unfold f_X10_writeNote_L55 at e
    refine z_iload_n E 2 dX10_writeNote_55 rfl ?_
    refine z_aload_n E 0 dX10_writeNote_56 rfl ?_
    obtain ⟨x1, e2, e⟩ := ob e
    refine z_getR E fl_X10_7 dX10_writeNote_57 e2 ?_
    refine z_iconst E dX10_writeNote_60 ic_0 ?_
    obtain ⟨x3, e4, e⟩ := ob e
    refine z_iald E dX10_writeNote_61 e4 ?_
    rcases oi e with ⟨c5, e⟩ | ⟨c5, e⟩
    · refine z_icmp_geT (tgt := 87) E dX10_writeNote_62 rfl c5 ?_
      obtain rfl := Option.some.inj e
      exact z_sub [0] rfl kk
    · refine z_icmp_geF (tgt := 87) E dX10_writeNote_62 rfl c5 ?_
      refine z_aload_n E 0 dX10_writeNote_65 rfl ?_
      refine z_iload_n E 1 dX10_writeNote_66 rfl ?_
      refine z_iload_n E 2 dX10_writeNote_67 rfl ?_
      obtain ⟨_, e6, e⟩ := ob e
      obtain ⟨p7, e8, e⟩ := ob e
      refine z_kR2 (st := []) (av := [.ref v0, .int v1, .int v2]) E k n (z_rV (st := []) (av := [.int v1, .int v2]) E Y_X10_isCiting k_X10_96 (ci := 12) rfl (c_X10_isCiting (z_El E) e8) dX10_writeNote_68 e6 rfl rfl (by decide) (by decide) (zk (k := k) (a := 0) hk (by decide)) (zk (k := n) (a := 0) hn (by decide)) (Nat.zero_le _)) rfl rfl rfl ?_
      rcases oi e with ⟨c9, e⟩ | ⟨c9, e⟩
      · refine z_if_eqT (tgt := 81) E dX10_writeNote_71 rfl (zb_f c9) ?_
        refine z_iinc (v := (v2 + (1 : Int32))) (lv2 := [(2, .int (v2 + (1 : Int32))), (0, .ref v0), (1, .int v1)]) E 2 dX10_writeNote_81 rfl (congrArg (v2 + ·) ic_1) (by decide) rfl ?_
        refine z_goto (tgt := 55) E dX10_writeNote_84 rfl ?_
        exact z_sub [1, 2, 0] rfl (ih _ _ _ _ e kk)
      · refine z_if_eqF (tgt := 81) E dX10_writeNote_71 rfl (zb_nf c9) ?_
        refine z_aload_n E 0 dX10_writeNote_74 rfl ?_
        refine z_bipush E dX10_writeNote_75 bp_62 ?_
        refine z_iload_n E 2 dX10_writeNote_77 rfl ?_
        obtain ⟨_, e10, e⟩ := ob e
        obtain ⟨p11, e12, e⟩ := ob e
        refine z_kV2 (st := []) (av := [.ref v0, .int (62 : Int32), .int v2]) E k n (z_rV (st := []) (av := [.int (62 : Int32), .int v2]) E Y_X10_writesBehind k_X10_294 (ci := 12) rfl (c_X10_writesBehind (z_El E) e12) dX10_writeNote_78 e10 rfl rfl (by decide) (by decide) (zk (k := k) (a := 0) hk (by decide)) (zk (k := n) (a := 0) hn (by decide)) (Nat.zero_le _)) rfl rfl rfl ?_
        refine z_iinc (v := (v2 + (1 : Int32))) (lv2 := [(2, .int (v2 + (1 : Int32))), (0, .ref v0), (1, .int v1)]) E 2 dX10_writeNote_81 rfl (congrArg (v2 + ·) ic_1) (by decide) rfl ?_
        refine z_goto (tgt := 55) E dX10_writeNote_84 rfl ?_
        exact z_sub [1, 2, 0] rfl (ih _ _ _ _ e kk)
noncomputable def f_X10_writeNote (h : PH) (a0 : Nat) (a1 : Int32) : Option (Int32 × PH) :=
  (gd h a0 12).bind fun _ =>
  (f_X10_isNone h a0 a1).bind fun p2 =>
  if p2.1 = false then
    (wr p2.2 a0 12 16 (.int (0 : Int32))).bind fun h5 =>
    (gd h5 a0 12).bind fun _ =>
    (f_X10_writesNumber 12 h5 a0 a1).bind fun p8 =>
    (gd p8 a0 12).bind fun _ =>
    (f_X10_of p8 a0 a1 (0 : Int32)).bind fun p11 =>
    (gd p8 a0 12).bind fun _ =>
    (f_X10_writesBehind p8 a0 (112 : Int32) p11).bind fun p14 =>
    (gd p14 a0 12).bind fun _ =>
    (f_X10_of p14 a0 a1 (1 : Int32)).bind fun p17 =>
    (gd p14 a0 12).bind fun _ =>
    (f_X10_writesBehind p14 a0 (119 : Int32) p17).bind fun p20 =>
    (gd p20 a0 12).bind fun _ =>
    (f_X10_sign p20 a0 a1).bind fun p23 =>
    (gd p20 a0 12).bind fun _ =>
    (f_X10_writes p20 a0 p23).bind fun p26 =>
    (f_X10_writeNote_L55 FV p26 a0 a1 (0 : Int32)).bind fun s28 =>
    (rdI s28 a0 12 16).bind fun x30 =>
    some (x30, s28)
  else
    some ((0 : Int32), p2.2)
theorem b_X10_writeNote {X : PX} (E : z_E X cX10_writeNote RX10 "writeNote" 3 rmX10_writeNote (some .int)) (T0 : z_T0 X) {h : PH} {a0 : Nat} {a1 : Int32} {r : (Int32 × PH)} (e : f_X10_writeNote h a0 a1 = some r) (M : z_M X rmX10_writeNote.cells rmX10_writeNote.slots (.inr (some (.int r.1))) r.2) : WP X 3 0 0 0 [(0, .ref a0), (1, .int a1)] [] h := by
  unfold f_X10_writeNote at e
  refine z_aload_n E 0 dX10_writeNote_0 rfl ?_
  refine z_iload_n E 1 dX10_writeNote_1 rfl ?_
  obtain ⟨_, e1, e⟩ := ob e
  obtain ⟨p2, e3, e⟩ := ob e
  refine z_kR2 (st := []) (av := [.ref a0, .int a1]) E 0 0 (z_rV (st := []) (av := [.int a1]) E Y_X10_isNone k_X10_107 (ci := 12) rfl (c_X10_isNone (z_El E) e3) dX10_writeNote_2 e1 rfl rfl (by decide) (by decide) (by decide) (by decide) (Nat.zero_le _)) rfl rfl rfl ?_
  rcases oi e with ⟨c4, e⟩ | ⟨c4, e⟩
  · refine z_if_eqT (tgt := 10) E dX10_writeNote_5 rfl (zb_f c4) ?_
    refine z_aload_n E 0 dX10_writeNote_10 rfl ?_
    refine z_iconst E dX10_writeNote_11 ic_0 ?_
    obtain ⟨h5, e6, e⟩ := ob e
    refine z_putI E fp_X10_284 (Or.inl rfl) dX10_writeNote_12 e6 ?_
    refine z_aload_n E 0 dX10_writeNote_15 rfl ?_
    refine z_iload_n E 1 dX10_writeNote_16 rfl ?_
    obtain ⟨_, e7, e⟩ := ob e
    obtain ⟨p8, e9, e⟩ := ob e
    refine z_kV2 (st := []) (av := [.ref a0, .int a1]) E 0 0 (z_rV (st := []) (av := [.int a1]) E Y_X10_writesNumber k_X10_287 (ci := 12) rfl (c_X10_writesNumber (z_El E) e9) dX10_writeNote_17 e7 rfl rfl (by decide) (by decide) (by decide) (by decide) (Nat.zero_le _)) rfl rfl rfl ?_
    refine z_aload_n E 0 dX10_writeNote_20 rfl ?_
    refine z_bipush E dX10_writeNote_21 bp_112 ?_
    refine z_aload_n E 0 dX10_writeNote_23 rfl ?_
    refine z_iload_n E 1 dX10_writeNote_24 rfl ?_
    refine z_iconst E dX10_writeNote_25 ic_0 ?_
    obtain ⟨_, e10, e⟩ := ob e
    obtain ⟨p11, e12, e⟩ := ob e
    refine z_kR2 (st := [.int (112 : Int32), .ref a0]) (av := [.ref a0, .int a1, .int (0 : Int32)]) E 0 0 (z_rV (st := [.int (112 : Int32), .ref a0]) (av := [.int a1, .int (0 : Int32)]) E Y_X10_of k_X10_73 (ci := 12) rfl (c_X10_of (z_El E) e12) dX10_writeNote_26 e10 rfl rfl (by decide) (by decide) (by decide) (by decide) (Nat.le_of_ble_eq_true rfl)) rfl rfl rfl ?_
    obtain ⟨_, e13, e⟩ := ob e
    obtain ⟨p14, e15, e⟩ := ob e
    refine z_kV2 (st := []) (av := [.ref a0, .int (112 : Int32), .int p11]) E 0 0 (z_rV (st := []) (av := [.int (112 : Int32), .int p11]) E Y_X10_writesBehind k_X10_294 (ci := 12) rfl (c_X10_writesBehind (z_El E) e15) dX10_writeNote_29 e13 rfl rfl (by decide) (by decide) (by decide) (by decide) (Nat.zero_le _)) rfl rfl rfl ?_
    refine z_aload_n E 0 dX10_writeNote_32 rfl ?_
    refine z_bipush E dX10_writeNote_33 bp_119 ?_
    refine z_aload_n E 0 dX10_writeNote_35 rfl ?_
    refine z_iload_n E 1 dX10_writeNote_36 rfl ?_
    refine z_iconst E dX10_writeNote_37 ic_1 ?_
    obtain ⟨_, e16, e⟩ := ob e
    obtain ⟨p17, e18, e⟩ := ob e
    refine z_kR2 (st := [.int (119 : Int32), .ref a0]) (av := [.ref a0, .int a1, .int (1 : Int32)]) E 0 0 (z_rV (st := [.int (119 : Int32), .ref a0]) (av := [.int a1, .int (1 : Int32)]) E Y_X10_of k_X10_73 (ci := 12) rfl (c_X10_of (z_El E) e18) dX10_writeNote_38 e16 rfl rfl (by decide) (by decide) (by decide) (by decide) (Nat.le_of_ble_eq_true rfl)) rfl rfl rfl ?_
    obtain ⟨_, e19, e⟩ := ob e
    obtain ⟨p20, e21, e⟩ := ob e
    refine z_kV2 (st := []) (av := [.ref a0, .int (119 : Int32), .int p17]) E 0 0 (z_rV (st := []) (av := [.int (119 : Int32), .int p17]) E Y_X10_writesBehind k_X10_294 (ci := 12) rfl (c_X10_writesBehind (z_El E) e21) dX10_writeNote_41 e19 rfl rfl (by decide) (by decide) (by decide) (by decide) (Nat.zero_le _)) rfl rfl rfl ?_
    refine z_aload_n E 0 dX10_writeNote_44 rfl ?_
    refine z_aload_n E 0 dX10_writeNote_45 rfl ?_
    refine z_iload_n E 1 dX10_writeNote_46 rfl ?_
    obtain ⟨_, e22, e⟩ := ob e
    obtain ⟨p23, e24, e⟩ := ob e
    refine z_kR2 (st := [.ref a0]) (av := [.ref a0, .int a1]) E 0 0 (z_rV (st := [.ref a0]) (av := [.int a1]) E Y_X10_sign k_X10_110 (ci := 12) rfl (c_X10_sign (z_El E) e24) dX10_writeNote_47 e22 rfl rfl (by decide) (by decide) (by decide) (by decide) (Nat.le_of_ble_eq_true rfl)) rfl rfl rfl ?_
    obtain ⟨_, e25, e⟩ := ob e
    obtain ⟨p26, e27, e⟩ := ob e
    refine z_kV2 (st := []) (av := [.ref a0, .int p23]) E 0 0 (z_rV (st := []) (av := [.int p23]) E Y_X10_writes k_X10_291 (ci := 12) rfl (c_X10_writes (z_El E) e27) dX10_writeNote_50 e25 rfl rfl (by decide) (by decide) (by decide) (by decide) (Nat.zero_le _)) rfl rfl rfl ?_
    refine z_iconst E dX10_writeNote_53 ic_0 ?_
    refine z_istore_n (lv2 := [(2, .int (0 : Int32)), (0, .ref a0), (1, .int a1)]) E dX10_writeNote_54 (by decide) rfl ?_
    obtain ⟨s28, e29, e⟩ := ob e
    refine z_sub [1, 2, 0] rfl (b_X10_writeNote_L55 E T0 (by decide) (by decide) FV _ _ _ _ e29 ?_)
    refine z_aload_n E 0 dX10_writeNote_87 rfl ?_
    obtain ⟨x30, e31, e⟩ := ob e
    refine z_getI E fl_X10_284 dX10_writeNote_88 e31 ?_
    obtain rfl := Option.some.inj e
    exact z_iret E M dX10_writeNote_91 rfl rfl rfl rfl (by decide) (by decide)
  · refine z_if_eqF (tgt := 10) E dX10_writeNote_5 rfl (zb_nf c4) ?_
    refine z_iconst E dX10_writeNote_8 ic_0 ?_
    obtain rfl := Option.some.inj e
    exact z_iret E M dX10_writeNote_9 rfl rfl rfl rfl (by decide) (by decide)
theorem c_X10_writeNote {l : Launch} (hl : l.stackTraces = false) {h : PH} {a0 : Nat} {a1 : Int32} {r : (Int32 × PH)} (e : f_X10_writeNote h a0 a1 = some r) : CMet l yX10_writeNote (z_W yX10_writeNote cX10_writeNote 3 (some .int)) rmX10_writeNote h [.ref a0, .int a1] (.inr (some (.int r.1))) r.2 :=
  z_met hl Y_X10_writeNote (by decide +kernel) (Nat.le_of_ble_eq_true rfl) (fun X hX E T0 M => b_X10_writeNote E T0 e M)
abbrev rmJ5_charAt_5068e : Room := { frames := 9, cells := 0, slots := 0, locals := 161 }
noncomputable def f_J5_charAt_5068e (h : PH) (a0 : Nat) (a1 : Int32) : Option Int32 :=
  (rdI h a0 1 1).bind fun x1 =>
  (rdR h a0 1 0).bind fun x3 =>
  (rdI h a0 1 3).bind fun x5 =>
  (alA .byte h x3).bind fun x7 =>
  (f_J0_checkIndex_df160 a1 (f_J9_min_7cf53 x5 (zshr x7 x1))).bind fun p9 =>
  if ¬ x1 = 0 then
    none
  else
    (alI .byte h x3 a1).bind fun x12 =>
    (zn .char (zi2c (x12 &&& (255 : Int32)))).bind fun x14 =>
    some x14
theorem b_J5_charAt_5068e {X : PX} (E : z_E X cJ5_charAt_5068e RJ5 "charAt" 5 rmJ5_charAt_5068e (some .char)) (T0 : z_T0 X) {h : PH} {a0 : Nat} {a1 : Int32} {r : Int32} (e : f_J5_charAt_5068e h a0 a1 = some r) (M : z_M X rmJ5_charAt_5068e.cells rmJ5_charAt_5068e.slots (.inr (some (.int r))) h) : WP X 5 0 0 0 [(0, .ref a0), (1, .int a1)] [] h := by
  unfold f_J5_charAt_5068e at e
  refine z_aload_n E 0 dJ5_charAt_5068e_0 rfl ?_
  obtain ⟨x1, e2, e⟩ := ob e
  refine z_getI E fl_J5_22 dJ5_charAt_5068e_1 e2 ?_
  refine z_istore_n (lv2 := [(2, .int x1), (0, .ref a0), (1, .int a1)]) E dJ5_charAt_5068e_4 (by decide) rfl ?_
  refine z_aload_n E 1 dJ5_charAt_5068e_5 rfl ?_
  obtain ⟨x3, e4, e⟩ := ob e
  refine z_getR E fl_J5_15 dJ5_charAt_5068e_6 e4 ?_
  refine z_astore_n (lv2 := [(3, .ref x3), (2, .int x1), (0, .ref a0), (1, .int a1)]) E dJ5_charAt_5068e_9 (by decide) rfl ?_
  refine z_aload_n E 2 dJ5_charAt_5068e_10 rfl ?_
  obtain ⟨x5, e6, e⟩ := ob e
  refine z_getI E fl_J5_79 dJ5_charAt_5068e_11 e6 ?_
  refine z_aload_n E 0 dJ5_charAt_5068e_14 rfl ?_
  obtain ⟨x7, e8, e⟩ := ob e
  refine z_alenA E 2 (fun _ => rfl) dJ5_charAt_5068e_15 e8 ?_
  refine z_iload_n E 1 dJ5_charAt_5068e_16 rfl ?_
  refine z_ishr E dJ5_charAt_5068e_17 ?_
  refine z_kR2 (st := []) (av := [.int x5, .int (zshr x7 x1)]) E 0 0 (z_rS (st := []) (av := [.int x5, .int (zshr x7 x1)]) E Y_J9_min_7cf53 k_J5_138 (c_J9_min_7cf53 (l := z_l X) (h := h) (z_El E) x5 (zshr x7 x1)) dJ5_charAt_5068e_18 rfl rfl (by decide) (by decide) (by decide) (by decide) (Nat.zero_le _)) rfl rfl rfl ?_
  refine z_istore (lv2 := [(4, .int (f_J9_min_7cf53 x5 (zshr x7 x1))), (3, .ref x3), (2, .int x1), (0, .ref a0), (1, .int a1)]) E dJ5_charAt_5068e_21 (by decide) rfl ?_
  refine z_iload_n E 4 dJ5_charAt_5068e_23 rfl ?_
  refine z_iload E 0 dJ5_charAt_5068e_24 rfl ?_
  obtain ⟨p9, e10, e⟩ := ob e
  refine z_kV2 (st := []) (av := [.int a1, .int (f_J9_min_7cf53 x5 (zshr x7 x1))]) E 0 0 (z_rS (st := []) (av := [.int a1, .int (f_J9_min_7cf53 x5 (zshr x7 x1))]) E Y_J0_checkIndex_df160 k_J5_144 (c_J0_checkIndex_df160 (z_El E) e10) dJ5_charAt_5068e_26 rfl rfl (by decide) (by decide) (by decide) (by decide) (Nat.zero_le _)) rfl rfl rfl ?_
  refine z_iload_n E 2 dJ5_charAt_5068e_29 rfl ?_
  rcases oi e with ⟨c11, e⟩ | ⟨c11, e⟩
  · refine z_if_neT (tgt := 42) E dJ5_charAt_5068e_30 rfl c11 ?_
    refine z_aload_n E 1 dJ5_charAt_5068e_42 rfl ?_
    refine z_iload_n E 4 dJ5_charAt_5068e_43 rfl ?_
    cases e
  · refine z_if_neF (tgt := 42) E dJ5_charAt_5068e_30 rfl (Classical.not_not.mp c11) ?_
    refine z_aload_n E 1 dJ5_charAt_5068e_33 rfl ?_
    refine z_iload_n E 4 dJ5_charAt_5068e_34 rfl ?_
    obtain ⟨x12, e13, e⟩ := ob e
    refine z_bald E dJ5_charAt_5068e_35 e13 ?_
    refine z_sipush E dJ5_charAt_5068e_36 sp_255 ?_
    refine z_iand E dJ5_charAt_5068e_39 ?_
    refine z_i2c (v := (zi2c (x12 &&& (255 : Int32)))) E dJ5_charAt_5068e_40 rfl ?_
    obtain ⟨x14, e15, e⟩ := ob e
    obtain ⟨x14a, x14b, -⟩ := z_zn e15
    obtain rfl := Option.some.inj e
    exact z_iret E M dJ5_charAt_5068e_41 rfl x14b (congrArg (fun z => Sum.inr (some (Value.int z))) x14a) rfl (by decide) (by decide)
theorem c_J5_charAt_5068e {l : Launch} (hl : l.stackTraces = false) {h : PH} {a0 : Nat} {a1 : Int32} {r : Int32} (e : f_J5_charAt_5068e h a0 a1 = some r) : CMet l yJ5_charAt_5068e (z_W yJ5_charAt_5068e cJ5_charAt_5068e 5 (some .char)) rmJ5_charAt_5068e h [.ref a0, .int a1] (.inr (some (.int r))) h :=
  z_met hl Y_J5_charAt_5068e (by decide +kernel) (Nat.le_of_ble_eq_true rfl) (fun X hX E T0 M => b_J5_charAt_5068e E T0 e M)
abbrev rmJ4_charAt_5068e : Room := { frames := 10, cells := 0, slots := 0, locals := 185 }
noncomputable def f_J4_charAt_5068e (h : PH) (a0 : Nat) (a1 : Int32) : Option Int32 :=
  (gd h a0 1).bind fun _ =>
  (f_J5_charAt_5068e h a0 a1).bind fun p2 =>
  (zn .char p2).bind fun x4 =>
  some x4
theorem b_J4_charAt_5068e {X : PX} (E : z_E X cJ4_charAt_5068e RJ4 "charAt" 2 rmJ4_charAt_5068e (some .char)) (T0 : z_T0 X) {h : PH} {a0 : Nat} {a1 : Int32} {r : Int32} (e : f_J4_charAt_5068e h a0 a1 = some r) (M : z_M X rmJ4_charAt_5068e.cells rmJ4_charAt_5068e.slots (.inr (some (.int r))) h) : WP X 2 0 0 0 [(0, .ref a0), (1, .int a1)] [] h := by
  unfold f_J4_charAt_5068e at e
  refine z_aload_n E 0 dJ4_charAt_5068e_0 rfl ?_
  refine z_iload_n E 1 dJ4_charAt_5068e_1 rfl ?_
  obtain ⟨_, e1, e⟩ := ob e
  obtain ⟨p2, e3, e⟩ := ob e
  refine z_kR2 (st := []) (av := [.ref a0, .int a1]) E 0 0 (z_rSU (st := []) (av := [.int a1]) E Y_J5_charAt_5068e k_J4_329 (ci := 1) rfl (c_J5_charAt_5068e (z_El E) e3) dJ4_charAt_5068e_2 e1 rfl rfl (by decide) (by decide) (by decide) (by decide) (Nat.zero_le _)) rfl rfl rfl ?_
  obtain ⟨x4, e5, e⟩ := ob e
  obtain ⟨x4a, x4b, -⟩ := z_zn e5
  obtain rfl := Option.some.inj e
  exact z_iret E M dJ4_charAt_5068e_5 rfl x4b (congrArg (fun z => Sum.inr (some (Value.int z))) x4a) rfl (by decide) (by decide)
theorem c_J4_charAt_5068e {l : Launch} (hl : l.stackTraces = false) {h : PH} {a0 : Nat} {a1 : Int32} {r : Int32} (e : f_J4_charAt_5068e h a0 a1 = some r) : CMet l yJ4_charAt_5068e (z_W yJ4_charAt_5068e cJ4_charAt_5068e 2 (some .char)) rmJ4_charAt_5068e h [.ref a0, .int a1] (.inr (some (.int r))) h :=
  z_met hl Y_J4_charAt_5068e (by decide +kernel) (Nat.le_of_ble_eq_true rfl) (fun X hX E T0 M => b_J4_charAt_5068e E T0 e M)
abbrev rmX9_lineCharacter : Room := { frames := 11, cells := 1, slots := 6, locals := 206 }
noncomputable def f_X9_lineCharacter (h : PH) (a0 : Nat) (a1 : Int32) : Option (String ⊕ Int32) :=
  if a1 < 0 then
    some (Sum.inl "java/lang/IndexOutOfBoundsException")
  else
    (rdR h a0 11 7).bind fun x2 =>
    (gd h x2 1).bind fun _ =>
    (f_J4_length_8abf5 h x2).bind fun p5 =>
    if a1 < p5 then
      (rdR h a0 11 7).bind fun x8 =>
      (gd h x8 1).bind fun _ =>
      (f_J4_charAt_5068e h x8 a1).bind fun p11 =>
      (zn .char p11).bind fun x13 =>
      some (Sum.inr x13)
    else
      some (Sum.inl "java/lang/IndexOutOfBoundsException")
theorem b_X9_lineCharacter {X : PX} (E : z_E X cX9_lineCharacter RX9 "lineCharacter" 2 rmX9_lineCharacter (some .char)) (T0 : z_T0 X) {h : PH} {a0 : Nat} {a1 : Int32} {r : (String ⊕ Int32)} (e : f_X9_lineCharacter h a0 a1 = some r) (M : z_M X rmX9_lineCharacter.cells rmX9_lineCharacter.slots (zoI r) h) : WP X 2 0 0 0 [(0, .ref a0), (1, .int a1)] [] h := by
  unfold f_X9_lineCharacter at e
  refine z_iload_n E 1 dX9_lineCharacter_0 rfl ?_
  rcases oi e with ⟨c1, e⟩ | ⟨c1, e⟩
  · refine z_if_ltT (tgt := 15) E dX9_lineCharacter_1 rfl c1 ?_
    obtain rfl := Option.some.inj e
    exact z_throw E 7 th_X9_275_277_279 T0 M dX9_lineCharacter_15 dX9_lineCharacter_18 (Or.inr ⟨dX9_lineCharacter_19, rfl⟩) dX9_lineCharacter_22 dX9_lineCharacter_25 rfl rfl (by decide) (Nat.le_of_ble_eq_true rfl) (by decide) (by decide) (by decide) (by decide)
  · refine z_if_ltF (tgt := 15) E dX9_lineCharacter_1 rfl c1 ?_
    refine z_iload_n E 1 dX9_lineCharacter_4 rfl ?_
    refine z_aload_n E 0 dX9_lineCharacter_5 rfl ?_
    obtain ⟨x2, e3, e⟩ := ob e
    refine z_getR E fl_X9_57 dX9_lineCharacter_6 e3 ?_
    obtain ⟨_, e4, e⟩ := ob e
    obtain ⟨p5, e6, e⟩ := ob e
    refine z_kR2 (st := [.int a1]) (av := [.ref x2]) E 0 0 (z_rV (st := [.int a1]) (av := []) E Y_J4_length_8abf5 k_X9_273 (ci := 1) rfl (c_J4_length_8abf5 (z_El E) e6) dX9_lineCharacter_9 e4 rfl rfl (by decide) (by decide) (by decide) (by decide) (Nat.le_of_ble_eq_true rfl)) rfl rfl rfl ?_
    rcases oi e with ⟨c7, e⟩ | ⟨c7, e⟩
    · refine z_icmp_ltT (tgt := 26) E dX9_lineCharacter_12 rfl c7 ?_
      refine z_aload_n E 0 dX9_lineCharacter_26 rfl ?_
      obtain ⟨x8, e9, e⟩ := ob e
      refine z_getR E fl_X9_57 dX9_lineCharacter_27 e9 ?_
      refine z_iload_n E 1 dX9_lineCharacter_30 rfl ?_
      obtain ⟨_, e10, e⟩ := ob e
      obtain ⟨p11, e12, e⟩ := ob e
      refine z_kR2 (st := []) (av := [.ref x8, .int a1]) E 0 0 (z_rV (st := []) (av := [.int a1]) E Y_J4_charAt_5068e k_X9_280 (ci := 1) rfl (c_J4_charAt_5068e (z_El E) e12) dX9_lineCharacter_31 e10 rfl rfl (by decide) (by decide) (by decide) (by decide) (Nat.zero_le _)) rfl rfl rfl ?_
      obtain ⟨x13, e14, e⟩ := ob e
      obtain ⟨x13a, x13b, -⟩ := z_zn e14
      obtain rfl := Option.some.inj e
      exact z_iret E M dX9_lineCharacter_34 rfl x13b (congrArg (fun z => Sum.inr (some (Value.int z))) x13a) rfl (by decide) (by decide)
    · refine z_icmp_ltF (tgt := 26) E dX9_lineCharacter_12 rfl c7 ?_
      obtain rfl := Option.some.inj e
      exact z_throw E 7 th_X9_275_277_279 T0 M dX9_lineCharacter_15 dX9_lineCharacter_18 (Or.inr ⟨dX9_lineCharacter_19, rfl⟩) dX9_lineCharacter_22 dX9_lineCharacter_25 rfl rfl (by decide) (Nat.le_of_ble_eq_true rfl) (by decide) (by decide) (by decide) (by decide)
theorem c_X9_lineCharacter {l : Launch} (hl : l.stackTraces = false) {h : PH} {a0 : Nat} {a1 : Int32} {r : (String ⊕ Int32)} (e : f_X9_lineCharacter h a0 a1 = some r) : CMet l yX9_lineCharacter (z_W yX9_lineCharacter cX9_lineCharacter 2 (some .char)) rmX9_lineCharacter h [.ref a0, .int a1] (zoI r) h :=
  z_met hl Y_X9_lineCharacter (by decide +kernel) (Nat.le_of_ble_eq_true rfl) (fun X hX E T0 M => b_X9_lineCharacter E T0 e M)
abbrev rmL_lineCharacter : Room := { frames := 12, cells := 1, slots := 6, locals := 227 }
noncomputable def f_L_lineCharacter (h : PH) (a0 : Nat) (a1 : Int32) (a2 : Nat) : Option (Int32 × PH) :=
  (gd h a0 11).bind fun _ =>
  (f_X9_lineCharacter h a0 a1).bind fun p2 =>
  Sum.elim
    (fun E4 =>
    if E4 = "java/lang/IndexOutOfBoundsException" then
      some ((1 : Int32), h)
    else none)
    (fun y6 =>
    (asL h a2 (0 : Int32) y6.toInt64).bind fun h8 =>
    some ((0 : Int32), h8)) p2
theorem b_L_lineCharacter {X : PX} (E : z_E X cL_lineCharacter RL "lineCharacter" 4 rmL_lineCharacter (some .int)) (TT : z_TT X [(0, 9, 12, 77)]) {h : PH} {a0 : Nat} {a1 : Int32} {a2 : Nat} {r : (Int32 × PH)} (e : f_L_lineCharacter h a0 a1 a2 = some r) (M : z_M X rmL_lineCharacter.cells rmL_lineCharacter.slots (.inr (some (.int r.1))) r.2) : WP X 4 0 0 0 [(0, .ref a0), (1, .int a1), (2, .ref a2)] [] h := by
  unfold f_L_lineCharacter at e
  refine z_aload_n E 2 dL_lineCharacter_0 rfl ?_
  refine z_iconst E dL_lineCharacter_1 ic_0 ?_
  refine z_aload_n E 0 dL_lineCharacter_2 rfl ?_
  refine z_iload_n E 1 dL_lineCharacter_3 rfl ?_
  obtain ⟨_, e1, e⟩ := ob e
  obtain ⟨p2, e3, e⟩ := ob e
  rcases os e with ⟨E4, c5, e⟩ | ⟨y6, c5, e⟩
  · rcases oi e with ⟨c7, e⟩ | ⟨c7, e⟩
    · subst c7
      refine z_kX2 (st := [.int (0 : Int32), .ref a2]) (av := [.ref a0, .int a1]) E 1 6 (z_rV (st := [.int (0 : Int32), .ref a2]) (av := [.int a1]) E Y_X9_lineCharacter k_L_133 (ci := 11) rfl (zc_o (c_X9_lineCharacter (z_El E) e3) (by rw [c5]; rfl)) dL_lineCharacter_4 e1 rfl rfl (by decide) (by decide) (by decide) (by decide) (Nat.le_of_ble_eq_true rfl)) rfl rfl rfl ?_
      refine z_catch (lv2 := [(0, .ref a0), (1, .int a1), (2, .ref a2)]) E TT 0 (q := (0, 9, 12, 77)) rfl rfl (by decide) cl_L_77 kb_IndexOutOfBoundsException (fun z hz => nomatch hz) (Or.inl ⟨_, dL_lineCharacter_12, rfl, rfl⟩) (by decide) rfl ?_
      refine z_iconst E dL_lineCharacter_13 ic_1 ?_
      obtain rfl := Option.some.inj e
      exact z_iret E M dL_lineCharacter_14 rfl rfl rfl rfl (by decide) (by decide)
    cases e
  · refine z_kR2 (st := [.int (0 : Int32), .ref a2]) (av := [.ref a0, .int a1]) E 1 6 (z_rV (st := [.int (0 : Int32), .ref a2]) (av := [.int a1]) E Y_X9_lineCharacter k_L_133 (ci := 11) rfl (zc_o (c_X9_lineCharacter (z_El E) e3) (by rw [c5]; rfl)) dL_lineCharacter_4 e1 rfl rfl (by decide) (by decide) (by decide) (by decide) (Nat.le_of_ble_eq_true rfl)) rfl rfl rfl ?_
    refine z_i2l (v := y6.toInt64) E dL_lineCharacter_7 rfl ?_
    obtain ⟨h8, e9, e⟩ := ob e
    refine z_last E dL_lineCharacter_8 e9 ?_
    refine z_goto (tgt := 15) E dL_lineCharacter_9 rfl ?_
    refine z_iconst E dL_lineCharacter_15 ic_0 ?_
    obtain rfl := Option.some.inj e
    exact z_iret E M dL_lineCharacter_16 rfl rfl rfl rfl (by decide) (by decide)
theorem c_L_lineCharacter {l : Launch} (hl : l.stackTraces = false) {h : PH} {a0 : Nat} {a1 : Int32} {a2 : Nat} {r : (Int32 × PH)} (e : f_L_lineCharacter h a0 a1 a2 = some r) : CMet l yL_lineCharacter (z_WH yL_lineCharacter cL_lineCharacter 4 (some .int) [(0, 9, 12, 77)]) rmL_lineCharacter h [.ref a0, .int a1, .ref a2] (.inr (some (.int r.1))) r.2 :=
  z_metH hl Y_L_lineCharacter (by decide +kernel) (Nat.le_of_ble_eq_true rfl) (fun X hX E T0 M => b_L_lineCharacter E T0 e M)
abbrev rmX10_lineCharacter : Room := { frames := 1, cells := 0, slots := 0, locals := 22 }
noncomputable def f_X10_lineCharacter (h : PH) (a0 : Nat) (a1 : Int32) : Option (Int32 × PH) :=
  (rdI h a0 12 16).bind fun x1 =>
  if (f_X10_in a1 (0 : Int32) (x1 - (1 : Int32))) = false then
    (gd h a0 12).bind fun _ =>
    (f_X10_fails h a0 (1 : Int32)).bind fun p5 =>
    if p5.1 = false then
      (rdR p5.2 a0 12 15).bind fun x8 =>
      (alI .char p5.2 x8 a1).bind fun x10 =>
      (zn .char x10).bind fun x12 =>
      some (x12, p5.2)
    else
      some ((32 : Int32), p5.2)
  else
    (gd h a0 12).bind fun _ =>
    (f_X10_fails h a0 (0 : Int32)).bind fun p15 =>
    if p15.1 = false then
      (rdR p15.2 a0 12 15).bind fun x18 =>
      (alI .char p15.2 x18 a1).bind fun x20 =>
      (zn .char x20).bind fun x22 =>
      some (x22, p15.2)
    else
      some ((32 : Int32), p15.2)
theorem b_X10_lineCharacter {X : PX} (E : z_E X cX10_lineCharacter RX10 "lineCharacter" 2 rmX10_lineCharacter (some .char)) (T0 : z_T0 X) {h : PH} {a0 : Nat} {a1 : Int32} {r : (Int32 × PH)} (e : f_X10_lineCharacter h a0 a1 = some r) (M : z_M X rmX10_lineCharacter.cells rmX10_lineCharacter.slots (.inr (some (.int r.1))) r.2) : WP X 2 0 0 0 [(0, .ref a0), (1, .int a1)] [] h := by
  unfold f_X10_lineCharacter at e
  refine z_aload_n E 0 dX10_lineCharacter_0 rfl ?_
  refine z_iload_n E 1 dX10_lineCharacter_1 rfl ?_
  refine z_iconst E dX10_lineCharacter_2 ic_0 ?_
  refine z_aload_n E 0 dX10_lineCharacter_3 rfl ?_
  obtain ⟨x1, e2, e⟩ := ob e
  refine z_getI E fl_X10_284 dX10_lineCharacter_4 e2 ?_
  refine z_iconst E dX10_lineCharacter_7 ic_1 ?_
  refine z_isub E dX10_lineCharacter_8 ?_
  refine z_kR2 (st := [.ref a0]) (av := [.int a1, .int (0 : Int32), .int (x1 - (1 : Int32))]) E 0 0 (z_rS (st := [.ref a0]) (av := [.int a1, .int (0 : Int32), .int (x1 - (1 : Int32))]) E Y_X10_in k_X10_62 (c_X10_in (l := z_l X) (h := h) (z_El E) a1 (0 : Int32) (x1 - (1 : Int32))) dX10_lineCharacter_9 rfl rfl (by decide) (by decide) (by decide) (by decide) (Nat.le_of_ble_eq_true rfl)) rfl rfl rfl ?_
  rcases oi e with ⟨c3, e⟩ | ⟨c3, e⟩
  · refine z_if_eqT (tgt := 19) E dX10_lineCharacter_12 rfl (zb_f c3) ?_
    refine z_iconst E dX10_lineCharacter_19 ic_1 ?_
    obtain ⟨_, e4, e⟩ := ob e
    obtain ⟨p5, e6, e⟩ := ob e
    refine z_kR2 (st := []) (av := [.ref a0, .int (1 : Int32)]) E 0 0 (z_rV (st := []) (av := [.int (1 : Int32)]) E Y_X10_fails k_X10_70 (ci := 12) rfl (c_X10_fails (z_El E) e6) dX10_lineCharacter_20 e4 rfl rfl (by decide) (by decide) (by decide) (by decide) (Nat.zero_le _)) rfl rfl rfl ?_
    rcases oi e with ⟨c7, e⟩ | ⟨c7, e⟩
    · refine z_if_eqT (tgt := 31) E dX10_lineCharacter_23 rfl (zb_f c7) ?_
      refine z_aload_n E 0 dX10_lineCharacter_31 rfl ?_
      obtain ⟨x8, e9, e⟩ := ob e
      refine z_getR E fl_X10_29 dX10_lineCharacter_32 e9 ?_
      refine z_iload_n E 1 dX10_lineCharacter_35 rfl ?_
      obtain ⟨x10, e11, e⟩ := ob e
      refine z_cald E dX10_lineCharacter_36 e11 ?_
      obtain ⟨x12, e13, e⟩ := ob e
      obtain ⟨x12a, x12b, -⟩ := z_zn e13
      obtain rfl := Option.some.inj e
      exact z_iret E M dX10_lineCharacter_37 rfl x12b (congrArg (fun z => Sum.inr (some (Value.int z))) x12a) rfl (by decide) (by decide)
    · refine z_if_eqF (tgt := 31) E dX10_lineCharacter_23 rfl (zb_nf c7) ?_
      refine z_bipush E dX10_lineCharacter_26 bp_32 ?_
      refine z_goto (tgt := 37) E dX10_lineCharacter_28 rfl ?_
      obtain rfl := Option.some.inj e
      exact z_iret E M dX10_lineCharacter_37 rfl rfl rfl rfl (by decide) (by decide)
  · refine z_if_eqF (tgt := 19) E dX10_lineCharacter_12 rfl (zb_nf c3) ?_
    refine z_iconst E dX10_lineCharacter_15 ic_0 ?_
    refine z_goto (tgt := 20) E dX10_lineCharacter_16 rfl ?_
    obtain ⟨_, e14, e⟩ := ob e
    obtain ⟨p15, e16, e⟩ := ob e
    refine z_kR2 (st := []) (av := [.ref a0, .int (0 : Int32)]) E 0 0 (z_rV (st := []) (av := [.int (0 : Int32)]) E Y_X10_fails k_X10_70 (ci := 12) rfl (c_X10_fails (z_El E) e16) dX10_lineCharacter_20 e14 rfl rfl (by decide) (by decide) (by decide) (by decide) (Nat.zero_le _)) rfl rfl rfl ?_
    rcases oi e with ⟨c17, e⟩ | ⟨c17, e⟩
    · refine z_if_eqT (tgt := 31) E dX10_lineCharacter_23 rfl (zb_f c17) ?_
      refine z_aload_n E 0 dX10_lineCharacter_31 rfl ?_
      obtain ⟨x18, e19, e⟩ := ob e
      refine z_getR E fl_X10_29 dX10_lineCharacter_32 e19 ?_
      refine z_iload_n E 1 dX10_lineCharacter_35 rfl ?_
      obtain ⟨x20, e21, e⟩ := ob e
      refine z_cald E dX10_lineCharacter_36 e21 ?_
      obtain ⟨x22, e23, e⟩ := ob e
      obtain ⟨x22a, x22b, -⟩ := z_zn e23
      obtain rfl := Option.some.inj e
      exact z_iret E M dX10_lineCharacter_37 rfl x22b (congrArg (fun z => Sum.inr (some (Value.int z))) x22a) rfl (by decide) (by decide)
    · refine z_if_eqF (tgt := 31) E dX10_lineCharacter_23 rfl (zb_nf c17) ?_
      refine z_bipush E dX10_lineCharacter_26 bp_32 ?_
      refine z_goto (tgt := 37) E dX10_lineCharacter_28 rfl ?_
      obtain rfl := Option.some.inj e
      exact z_iret E M dX10_lineCharacter_37 rfl rfl rfl rfl (by decide) (by decide)
theorem c_X10_lineCharacter {l : Launch} (hl : l.stackTraces = false) {h : PH} {a0 : Nat} {a1 : Int32} {r : (Int32 × PH)} (e : f_X10_lineCharacter h a0 a1 = some r) : CMet l yX10_lineCharacter (z_W yX10_lineCharacter cX10_lineCharacter 2 (some .char)) rmX10_lineCharacter h [.ref a0, .int a1] (.inr (some (.int r.1))) r.2 :=
  z_met hl Y_X10_lineCharacter (by decide +kernel) (Nat.le_of_ble_eq_true rfl) (fun X hX E T0 M => b_X10_lineCharacter E T0 e M)
abbrev rmX9_needDenial : Room := { frames := 6, cells := 1, slots := 6, locals := 92 }
noncomputable def f_X9_needDenial (h : PH) (a0 : Nat) : Option (String ⊕ Unit) :=
  (rdR h a0 11 6).bind fun x1 =>
  (rdI h x1 5 0).bind fun x3 =>
  if ¬ x3 = 0 then
    some (Sum.inr ())
  else
    some (Sum.inl "java/util/NoSuchElementException")
theorem b_X9_needDenial {X : PX} (E : z_E X cX9_needDenial RX9 "needDenial" 1 rmX9_needDenial none) (T0 : z_T0 X) {h : PH} {a0 : Nat} {r : (String ⊕ Unit)} (e : f_X9_needDenial h a0 = some r) (M : z_M X rmX9_needDenial.cells rmX9_needDenial.slots (zoV r) h) : WP X 1 0 0 0 [(0, .ref a0)] [] h := by
  unfold f_X9_needDenial at e
  refine z_aload_n E 0 dX9_needDenial_0 rfl ?_
  obtain ⟨x1, e2, e⟩ := ob e
  refine z_getR E fl_X9_50 dX9_needDenial_1 e2 ?_
  obtain ⟨x3, e4, e⟩ := ob e
  refine z_getI E fl_X9_287 dX9_needDenial_4 e4 ?_
  rcases oi e with ⟨c5, e⟩ | ⟨c5, e⟩
  · refine z_if_neT (tgt := 21) E dX9_needDenial_7 rfl c5 ?_
    obtain rfl := Option.some.inj e
    exact z_vret E M dX9_needDenial_21 rfl rfl rfl (by decide) (by decide)
  · refine z_if_neF (tgt := 21) E dX9_needDenial_7 rfl (Classical.not_not.mp c5) ?_
    obtain rfl := Option.some.inj e
    exact z_throw E 7 th_X9_120_360_124 T0 M dX9_needDenial_10 dX9_needDenial_13 (Or.inr ⟨dX9_needDenial_14, rfl⟩) dX9_needDenial_17 dX9_needDenial_20 rfl rfl (by decide) (Nat.le_of_ble_eq_true rfl) (by decide) (by decide) (by decide) (by decide)
theorem c_X9_needDenial {l : Launch} (hl : l.stackTraces = false) {h : PH} {a0 : Nat} {r : (String ⊕ Unit)} (e : f_X9_needDenial h a0 = some r) : CMet l yX9_needDenial (z_W yX9_needDenial cX9_needDenial 1 none) rmX9_needDenial h [.ref a0] (zoV r) h :=
  z_met hl Y_X9_needDenial (by decide +kernel) (Nat.le_of_ble_eq_true rfl) (fun X hX E T0 M => b_X9_needDenial E T0 e M)
abbrev rmX9_denial : Room := { frames := 7, cells := 1, slots := 6, locals := 112 }
noncomputable def f_X9_denial (h : PH) (a0 : Nat) : Option (String ⊕ Int32) :=
  (gd h a0 11).bind fun _ =>
  (f_X9_needDenial h a0).bind fun p2 =>
  Sum.elim
    (fun E4 =>
    some (Sum.inl E4))
    (fun y6 =>
    (rdR h a0 11 6).bind fun x7 =>
    (rdI h x7 5 0).bind fun x9 =>
    some (Sum.inr x9)) p2
theorem b_X9_denial {X : PX} (E : z_E X cX9_denial RX9 "denial" 1 rmX9_denial (some .int)) (T0 : z_T0 X) {h : PH} {a0 : Nat} {r : (String ⊕ Int32)} (e : f_X9_denial h a0 = some r) (M : z_M X rmX9_denial.cells rmX9_denial.slots (zoI r) h) : WP X 1 0 0 0 [(0, .ref a0)] [] h := by
  unfold f_X9_denial at e
  refine z_aload_n E 0 dX9_denial_0 rfl ?_
  obtain ⟨_, e1, e⟩ := ob e
  obtain ⟨p2, e3, e⟩ := ob e
  rcases os e with ⟨E4, c5, e⟩ | ⟨y6, c5, e⟩
  · obtain rfl := Option.some.inj e
    refine z_kX2 (st := []) (av := [.ref a0]) E 1 6 (z_rV (st := []) (av := []) E Y_X9_needDenial k_X9_284 (ci := 11) rfl (zc_o (c_X9_needDenial (z_El E) e3) (by rw [c5]; rfl)) dX9_denial_1 e1 rfl rfl (by decide) (by decide) (by decide) (by decide) (Nat.zero_le _)) rfl rfl rfl ?_
    exact z_outX E T0 M rfl rfl (by decide) (by decide)
  · refine z_kV2 (st := []) (av := [.ref a0]) E 1 6 (z_rV (st := []) (av := []) E Y_X9_needDenial k_X9_284 (ci := 11) rfl (zc_o (c_X9_needDenial (z_El E) e3) (by rw [c5]; rfl)) dX9_denial_1 e1 rfl rfl (by decide) (by decide) (by decide) (by decide) (Nat.zero_le _)) rfl rfl rfl ?_
    refine z_aload_n E 0 dX9_denial_4 rfl ?_
    obtain ⟨x7, e8, e⟩ := ob e
    refine z_getR E fl_X9_50 dX9_denial_5 e8 ?_
    obtain ⟨x9, e10, e⟩ := ob e
    refine z_getI E fl_X9_287 dX9_denial_8 e10 ?_
    obtain rfl := Option.some.inj e
    exact z_iret E M dX9_denial_11 rfl rfl rfl rfl (by decide) (by decide)
theorem c_X9_denial {l : Launch} (hl : l.stackTraces = false) {h : PH} {a0 : Nat} {r : (String ⊕ Int32)} (e : f_X9_denial h a0 = some r) : CMet l yX9_denial (z_W yX9_denial cX9_denial 1 (some .int)) rmX9_denial h [.ref a0] (zoI r) h :=
  z_met hl Y_X9_denial (by decide +kernel) (Nat.le_of_ble_eq_true rfl) (fun X hX E T0 M => b_X9_denial E T0 e M)
abbrev rmL_denial : Room := { frames := 8, cells := 1, slots := 6, locals := 132 }
noncomputable def f_L_denial (h : PH) (a0 : Nat) (a1 : Nat) : Option (Int32 × PH) :=
  (gd h a0 11).bind fun _ =>
  (f_X9_denial h a0).bind fun p2 =>
  Sum.elim
    (fun E4 =>
    if E4 = "java/util/NoSuchElementException" then
      some ((1 : Int32), h)
    else none)
    (fun y6 =>
    (asL h a1 (0 : Int32) y6.toInt64).bind fun h8 =>
    some ((0 : Int32), h8)) p2
theorem b_L_denial {X : PX} (E : z_E X cL_denial RL "denial" 3 rmL_denial (some .int)) (TT : z_TT X [(0, 8, 11, 20)]) {h : PH} {a0 : Nat} {a1 : Nat} {r : (Int32 × PH)} (e : f_L_denial h a0 a1 = some r) (M : z_M X rmL_denial.cells rmL_denial.slots (.inr (some (.int r.1))) r.2) : WP X 3 0 0 0 [(0, .ref a0), (1, .ref a1)] [] h := by
  unfold f_L_denial at e
  refine z_aload_n E 1 dL_denial_0 rfl ?_
  refine z_iconst E dL_denial_1 ic_0 ?_
  refine z_aload_n E 0 dL_denial_2 rfl ?_
  obtain ⟨_, e1, e⟩ := ob e
  obtain ⟨p2, e3, e⟩ := ob e
  rcases os e with ⟨E4, c5, e⟩ | ⟨y6, c5, e⟩
  · rcases oi e with ⟨c7, e⟩ | ⟨c7, e⟩
    · subst c7
      refine z_kX2 (st := [.int (0 : Int32), .ref a1]) (av := [.ref a0]) E 1 6 (z_rV (st := [.int (0 : Int32), .ref a1]) (av := []) E Y_X9_denial k_L_136 (ci := 11) rfl (zc_o (c_X9_denial (z_El E) e3) (by rw [c5]; rfl)) dL_denial_3 e1 rfl rfl (by decide) (by decide) (by decide) (by decide) (Nat.le_of_ble_eq_true rfl)) rfl rfl rfl ?_
      refine z_catch (lv2 := [(0, .ref a0), (1, .ref a1)]) E TT 0 (q := (0, 8, 11, 20)) rfl rfl (by decide) cl_L_20 kb_NoSuchElementException (fun z hz => nomatch hz) (Or.inl ⟨_, dL_denial_11, rfl, rfl⟩) (by decide) rfl ?_
      refine z_iconst E dL_denial_12 ic_1 ?_
      obtain rfl := Option.some.inj e
      exact z_iret E M dL_denial_13 rfl rfl rfl rfl (by decide) (by decide)
    cases e
  · refine z_kR2 (st := [.int (0 : Int32), .ref a1]) (av := [.ref a0]) E 1 6 (z_rV (st := [.int (0 : Int32), .ref a1]) (av := []) E Y_X9_denial k_L_136 (ci := 11) rfl (zc_o (c_X9_denial (z_El E) e3) (by rw [c5]; rfl)) dL_denial_3 e1 rfl rfl (by decide) (by decide) (by decide) (by decide) (Nat.le_of_ble_eq_true rfl)) rfl rfl rfl ?_
    refine z_i2l (v := y6.toInt64) E dL_denial_6 rfl ?_
    obtain ⟨h8, e9, e⟩ := ob e
    refine z_last E dL_denial_7 e9 ?_
    refine z_goto (tgt := 14) E dL_denial_8 rfl ?_
    refine z_iconst E dL_denial_14 ic_0 ?_
    obtain rfl := Option.some.inj e
    exact z_iret E M dL_denial_15 rfl rfl rfl rfl (by decide) (by decide)
theorem c_L_denial {l : Launch} (hl : l.stackTraces = false) {h : PH} {a0 : Nat} {a1 : Nat} {r : (Int32 × PH)} (e : f_L_denial h a0 a1 = some r) : CMet l yL_denial (z_WH yL_denial cL_denial 3 (some .int) [(0, 8, 11, 20)]) rmL_denial h [.ref a0, .ref a1] (.inr (some (.int r.1))) r.2 :=
  z_metH hl Y_L_denial (by decide +kernel) (Nat.le_of_ble_eq_true rfl) (fun X hX E T0 M => b_L_denial E T0 e M)
abbrev rmX10_denial : Room := { frames := 1, cells := 0, slots := 0, locals := 21 }
noncomputable def f_X10_denial (h : PH) (a0 : Nat) : Option (Int32 × PH) :=
  (rdI h a0 12 9).bind fun x1 =>
  if ¬ x1 = 0 then
    (gd h a0 12).bind fun _ =>
    (f_X10_fails h a0 (0 : Int32)).bind fun p5 =>
    if p5.1 = false then
      (rdI p5.2 a0 12 9).bind fun x8 =>
      some (x8, p5.2)
    else
      some ((0 : Int32), p5.2)
  else
    (gd h a0 12).bind fun _ =>
    (f_X10_fails h a0 (1 : Int32)).bind fun p11 =>
    if p11.1 = false then
      (rdI p11.2 a0 12 9).bind fun x14 =>
      some (x14, p11.2)
    else
      some ((0 : Int32), p11.2)
theorem b_X10_denial {X : PX} (E : z_E X cX10_denial RX10 "denial" 1 rmX10_denial (some .int)) (T0 : z_T0 X) {h : PH} {a0 : Nat} {r : (Int32 × PH)} (e : f_X10_denial h a0 = some r) (M : z_M X rmX10_denial.cells rmX10_denial.slots (.inr (some (.int r.1))) r.2) : WP X 1 0 0 0 [(0, .ref a0)] [] h := by
  unfold f_X10_denial at e
  refine z_aload_n E 0 dX10_denial_0 rfl ?_
  refine z_aload_n E 0 dX10_denial_1 rfl ?_
  obtain ⟨x1, e2, e⟩ := ob e
  refine z_getI E fl_X10_43 dX10_denial_2 e2 ?_
  rcases oi e with ⟨c3, e⟩ | ⟨c3, e⟩
  · refine z_if_neT (tgt := 12) E dX10_denial_5 rfl c3 ?_
    refine z_iconst E dX10_denial_12 ic_0 ?_
    obtain ⟨_, e4, e⟩ := ob e
    obtain ⟨p5, e6, e⟩ := ob e
    refine z_kR2 (st := []) (av := [.ref a0, .int (0 : Int32)]) E 0 0 (z_rV (st := []) (av := [.int (0 : Int32)]) E Y_X10_fails k_X10_70 (ci := 12) rfl (c_X10_fails (z_El E) e6) dX10_denial_13 e4 rfl rfl (by decide) (by decide) (by decide) (by decide) (Nat.zero_le _)) rfl rfl rfl ?_
    rcases oi e with ⟨c7, e⟩ | ⟨c7, e⟩
    · refine z_if_eqT (tgt := 23) E dX10_denial_16 rfl (zb_f c7) ?_
      refine z_aload_n E 0 dX10_denial_23 rfl ?_
      obtain ⟨x8, e9, e⟩ := ob e
      refine z_getI E fl_X10_43 dX10_denial_24 e9 ?_
      obtain rfl := Option.some.inj e
      exact z_iret E M dX10_denial_27 rfl rfl rfl rfl (by decide) (by decide)
    · refine z_if_eqF (tgt := 23) E dX10_denial_16 rfl (zb_nf c7) ?_
      refine z_iconst E dX10_denial_19 ic_0 ?_
      refine z_goto (tgt := 27) E dX10_denial_20 rfl ?_
      obtain rfl := Option.some.inj e
      exact z_iret E M dX10_denial_27 rfl rfl rfl rfl (by decide) (by decide)
  · refine z_if_neF (tgt := 12) E dX10_denial_5 rfl (Classical.not_not.mp c3) ?_
    refine z_iconst E dX10_denial_8 ic_1 ?_
    refine z_goto (tgt := 13) E dX10_denial_9 rfl ?_
    obtain ⟨_, e10, e⟩ := ob e
    obtain ⟨p11, e12, e⟩ := ob e
    refine z_kR2 (st := []) (av := [.ref a0, .int (1 : Int32)]) E 0 0 (z_rV (st := []) (av := [.int (1 : Int32)]) E Y_X10_fails k_X10_70 (ci := 12) rfl (c_X10_fails (z_El E) e12) dX10_denial_13 e10 rfl rfl (by decide) (by decide) (by decide) (by decide) (Nat.zero_le _)) rfl rfl rfl ?_
    rcases oi e with ⟨c13, e⟩ | ⟨c13, e⟩
    · refine z_if_eqT (tgt := 23) E dX10_denial_16 rfl (zb_f c13) ?_
      refine z_aload_n E 0 dX10_denial_23 rfl ?_
      obtain ⟨x14, e15, e⟩ := ob e
      refine z_getI E fl_X10_43 dX10_denial_24 e15 ?_
      obtain rfl := Option.some.inj e
      exact z_iret E M dX10_denial_27 rfl rfl rfl rfl (by decide) (by decide)
    · refine z_if_eqF (tgt := 23) E dX10_denial_16 rfl (zb_nf c13) ?_
      refine z_iconst E dX10_denial_19 ic_0 ?_
      refine z_goto (tgt := 27) E dX10_denial_20 rfl ?_
      obtain rfl := Option.some.inj e
      exact z_iret E M dX10_denial_27 rfl rfl rfl rfl (by decide) (by decide)
theorem c_X10_denial {l : Launch} (hl : l.stackTraces = false) {h : PH} {a0 : Nat} {r : (Int32 × PH)} (e : f_X10_denial h a0 = some r) : CMet l yX10_denial (z_W yX10_denial cX10_denial 1 (some .int)) rmX10_denial h [.ref a0] (.inr (some (.int r.1))) r.2 :=
  z_met hl Y_X10_denial (by decide +kernel) (Nat.le_of_ble_eq_true rfl) (fun X hX E T0 M => b_X10_denial E T0 e M)
abbrev rmX9_denialDetail : Room := { frames := 7, cells := 1, slots := 6, locals := 112 }
noncomputable def f_X9_denialDetail (h : PH) (a0 : Nat) : Option (String ⊕ Int32) :=
  (gd h a0 11).bind fun _ =>
  (f_X9_needDenial h a0).bind fun p2 =>
  Sum.elim
    (fun E4 =>
    some (Sum.inl E4))
    (fun y6 =>
    (rdR h a0 11 6).bind fun x7 =>
    (rdI h x7 5 1).bind fun x9 =>
    some (Sum.inr x9)) p2
theorem b_X9_denialDetail {X : PX} (E : z_E X cX9_denialDetail RX9 "denialDetail" 1 rmX9_denialDetail (some .int)) (T0 : z_T0 X) {h : PH} {a0 : Nat} {r : (String ⊕ Int32)} (e : f_X9_denialDetail h a0 = some r) (M : z_M X rmX9_denialDetail.cells rmX9_denialDetail.slots (zoI r) h) : WP X 1 0 0 0 [(0, .ref a0)] [] h := by
  unfold f_X9_denialDetail at e
  refine z_aload_n E 0 dX9_denialDetail_0 rfl ?_
  obtain ⟨_, e1, e⟩ := ob e
  obtain ⟨p2, e3, e⟩ := ob e
  rcases os e with ⟨E4, c5, e⟩ | ⟨y6, c5, e⟩
  · obtain rfl := Option.some.inj e
    refine z_kX2 (st := []) (av := [.ref a0]) E 1 6 (z_rV (st := []) (av := []) E Y_X9_needDenial k_X9_284 (ci := 11) rfl (zc_o (c_X9_needDenial (z_El E) e3) (by rw [c5]; rfl)) dX9_denialDetail_1 e1 rfl rfl (by decide) (by decide) (by decide) (by decide) (Nat.zero_le _)) rfl rfl rfl ?_
    exact z_outX E T0 M rfl rfl (by decide) (by decide)
  · refine z_kV2 (st := []) (av := [.ref a0]) E 1 6 (z_rV (st := []) (av := []) E Y_X9_needDenial k_X9_284 (ci := 11) rfl (zc_o (c_X9_needDenial (z_El E) e3) (by rw [c5]; rfl)) dX9_denialDetail_1 e1 rfl rfl (by decide) (by decide) (by decide) (by decide) (Nat.zero_le _)) rfl rfl rfl ?_
    refine z_aload_n E 0 dX9_denialDetail_4 rfl ?_
    obtain ⟨x7, e8, e⟩ := ob e
    refine z_getR E fl_X9_50 dX9_denialDetail_5 e8 ?_
    obtain ⟨x9, e10, e⟩ := ob e
    refine z_getI E fl_X9_290 dX9_denialDetail_8 e10 ?_
    obtain rfl := Option.some.inj e
    exact z_iret E M dX9_denialDetail_11 rfl rfl rfl rfl (by decide) (by decide)
theorem c_X9_denialDetail {l : Launch} (hl : l.stackTraces = false) {h : PH} {a0 : Nat} {r : (String ⊕ Int32)} (e : f_X9_denialDetail h a0 = some r) : CMet l yX9_denialDetail (z_W yX9_denialDetail cX9_denialDetail 1 (some .int)) rmX9_denialDetail h [.ref a0] (zoI r) h :=
  z_met hl Y_X9_denialDetail (by decide +kernel) (Nat.le_of_ble_eq_true rfl) (fun X hX E T0 M => b_X9_denialDetail E T0 e M)
abbrev rmL_denialDetail : Room := { frames := 8, cells := 1, slots := 6, locals := 132 }
noncomputable def f_L_denialDetail (h : PH) (a0 : Nat) (a1 : Nat) : Option (Int32 × PH) :=
  (gd h a0 11).bind fun _ =>
  (f_X9_denialDetail h a0).bind fun p2 =>
  Sum.elim
    (fun E4 =>
    if E4 = "java/util/NoSuchElementException" then
      some ((1 : Int32), h)
    else none)
    (fun y6 =>
    (asL h a1 (0 : Int32) y6.toInt64).bind fun h8 =>
    some ((0 : Int32), h8)) p2
theorem b_L_denialDetail {X : PX} (E : z_E X cL_denialDetail RL "denialDetail" 3 rmL_denialDetail (some .int)) (TT : z_TT X [(0, 8, 11, 20)]) {h : PH} {a0 : Nat} {a1 : Nat} {r : (Int32 × PH)} (e : f_L_denialDetail h a0 a1 = some r) (M : z_M X rmL_denialDetail.cells rmL_denialDetail.slots (.inr (some (.int r.1))) r.2) : WP X 3 0 0 0 [(0, .ref a0), (1, .ref a1)] [] h := by
  unfold f_L_denialDetail at e
  refine z_aload_n E 1 dL_denialDetail_0 rfl ?_
  refine z_iconst E dL_denialDetail_1 ic_0 ?_
  refine z_aload_n E 0 dL_denialDetail_2 rfl ?_
  obtain ⟨_, e1, e⟩ := ob e
  obtain ⟨p2, e3, e⟩ := ob e
  rcases os e with ⟨E4, c5, e⟩ | ⟨y6, c5, e⟩
  · rcases oi e with ⟨c7, e⟩ | ⟨c7, e⟩
    · subst c7
      refine z_kX2 (st := [.int (0 : Int32), .ref a1]) (av := [.ref a0]) E 1 6 (z_rV (st := [.int (0 : Int32), .ref a1]) (av := []) E Y_X9_denialDetail k_L_139 (ci := 11) rfl (zc_o (c_X9_denialDetail (z_El E) e3) (by rw [c5]; rfl)) dL_denialDetail_3 e1 rfl rfl (by decide) (by decide) (by decide) (by decide) (Nat.le_of_ble_eq_true rfl)) rfl rfl rfl ?_
      refine z_catch (lv2 := [(0, .ref a0), (1, .ref a1)]) E TT 0 (q := (0, 8, 11, 20)) rfl rfl (by decide) cl_L_20 kb_NoSuchElementException (fun z hz => nomatch hz) (Or.inl ⟨_, dL_denialDetail_11, rfl, rfl⟩) (by decide) rfl ?_
      refine z_iconst E dL_denialDetail_12 ic_1 ?_
      obtain rfl := Option.some.inj e
      exact z_iret E M dL_denialDetail_13 rfl rfl rfl rfl (by decide) (by decide)
    cases e
  · refine z_kR2 (st := [.int (0 : Int32), .ref a1]) (av := [.ref a0]) E 1 6 (z_rV (st := [.int (0 : Int32), .ref a1]) (av := []) E Y_X9_denialDetail k_L_139 (ci := 11) rfl (zc_o (c_X9_denialDetail (z_El E) e3) (by rw [c5]; rfl)) dL_denialDetail_3 e1 rfl rfl (by decide) (by decide) (by decide) (by decide) (Nat.le_of_ble_eq_true rfl)) rfl rfl rfl ?_
    refine z_i2l (v := y6.toInt64) E dL_denialDetail_6 rfl ?_
    obtain ⟨h8, e9, e⟩ := ob e
    refine z_last E dL_denialDetail_7 e9 ?_
    refine z_goto (tgt := 14) E dL_denialDetail_8 rfl ?_
    refine z_iconst E dL_denialDetail_14 ic_0 ?_
    obtain rfl := Option.some.inj e
    exact z_iret E M dL_denialDetail_15 rfl rfl rfl rfl (by decide) (by decide)
theorem c_L_denialDetail {l : Launch} (hl : l.stackTraces = false) {h : PH} {a0 : Nat} {a1 : Nat} {r : (Int32 × PH)} (e : f_L_denialDetail h a0 a1 = some r) : CMet l yL_denialDetail (z_WH yL_denialDetail cL_denialDetail 3 (some .int) [(0, 8, 11, 20)]) rmL_denialDetail h [.ref a0, .ref a1] (.inr (some (.int r.1))) r.2 :=
  z_metH hl Y_L_denialDetail (by decide +kernel) (Nat.le_of_ble_eq_true rfl) (fun X hX E T0 M => b_L_denialDetail E T0 e M)
abbrev rmX10_denialDetail : Room := { frames := 1, cells := 0, slots := 0, locals := 21 }
noncomputable def f_X10_denialDetail (h : PH) (a0 : Nat) : Option (Int32 × PH) :=
  (rdI h a0 12 9).bind fun x1 =>
  if ¬ x1 = 0 then
    (gd h a0 12).bind fun _ =>
    (f_X10_fails h a0 (0 : Int32)).bind fun p5 =>
    if p5.1 = false then
      (rdI p5.2 a0 12 10).bind fun x8 =>
      some (x8, p5.2)
    else
      some ((0 : Int32), p5.2)
  else
    (gd h a0 12).bind fun _ =>
    (f_X10_fails h a0 (1 : Int32)).bind fun p11 =>
    if p11.1 = false then
      (rdI p11.2 a0 12 10).bind fun x14 =>
      some (x14, p11.2)
    else
      some ((0 : Int32), p11.2)
theorem b_X10_denialDetail {X : PX} (E : z_E X cX10_denialDetail RX10 "denialDetail" 1 rmX10_denialDetail (some .int)) (T0 : z_T0 X) {h : PH} {a0 : Nat} {r : (Int32 × PH)} (e : f_X10_denialDetail h a0 = some r) (M : z_M X rmX10_denialDetail.cells rmX10_denialDetail.slots (.inr (some (.int r.1))) r.2) : WP X 1 0 0 0 [(0, .ref a0)] [] h := by
  unfold f_X10_denialDetail at e
  refine z_aload_n E 0 dX10_denialDetail_0 rfl ?_
  refine z_aload_n E 0 dX10_denialDetail_1 rfl ?_
  obtain ⟨x1, e2, e⟩ := ob e
  refine z_getI E fl_X10_43 dX10_denialDetail_2 e2 ?_
  rcases oi e with ⟨c3, e⟩ | ⟨c3, e⟩
  · refine z_if_neT (tgt := 12) E dX10_denialDetail_5 rfl c3 ?_
    refine z_iconst E dX10_denialDetail_12 ic_0 ?_
    obtain ⟨_, e4, e⟩ := ob e
    obtain ⟨p5, e6, e⟩ := ob e
    refine z_kR2 (st := []) (av := [.ref a0, .int (0 : Int32)]) E 0 0 (z_rV (st := []) (av := [.int (0 : Int32)]) E Y_X10_fails k_X10_70 (ci := 12) rfl (c_X10_fails (z_El E) e6) dX10_denialDetail_13 e4 rfl rfl (by decide) (by decide) (by decide) (by decide) (Nat.zero_le _)) rfl rfl rfl ?_
    rcases oi e with ⟨c7, e⟩ | ⟨c7, e⟩
    · refine z_if_eqT (tgt := 23) E dX10_denialDetail_16 rfl (zb_f c7) ?_
      refine z_aload_n E 0 dX10_denialDetail_23 rfl ?_
      obtain ⟨x8, e9, e⟩ := ob e
      refine z_getI E fl_X10_46 dX10_denialDetail_24 e9 ?_
      obtain rfl := Option.some.inj e
      exact z_iret E M dX10_denialDetail_27 rfl rfl rfl rfl (by decide) (by decide)
    · refine z_if_eqF (tgt := 23) E dX10_denialDetail_16 rfl (zb_nf c7) ?_
      refine z_iconst E dX10_denialDetail_19 ic_0 ?_
      refine z_goto (tgt := 27) E dX10_denialDetail_20 rfl ?_
      obtain rfl := Option.some.inj e
      exact z_iret E M dX10_denialDetail_27 rfl rfl rfl rfl (by decide) (by decide)
  · refine z_if_neF (tgt := 12) E dX10_denialDetail_5 rfl (Classical.not_not.mp c3) ?_
    refine z_iconst E dX10_denialDetail_8 ic_1 ?_
    refine z_goto (tgt := 13) E dX10_denialDetail_9 rfl ?_
    obtain ⟨_, e10, e⟩ := ob e
    obtain ⟨p11, e12, e⟩ := ob e
    refine z_kR2 (st := []) (av := [.ref a0, .int (1 : Int32)]) E 0 0 (z_rV (st := []) (av := [.int (1 : Int32)]) E Y_X10_fails k_X10_70 (ci := 12) rfl (c_X10_fails (z_El E) e12) dX10_denialDetail_13 e10 rfl rfl (by decide) (by decide) (by decide) (by decide) (Nat.zero_le _)) rfl rfl rfl ?_
    rcases oi e with ⟨c13, e⟩ | ⟨c13, e⟩
    · refine z_if_eqT (tgt := 23) E dX10_denialDetail_16 rfl (zb_f c13) ?_
      refine z_aload_n E 0 dX10_denialDetail_23 rfl ?_
      obtain ⟨x14, e15, e⟩ := ob e
      refine z_getI E fl_X10_46 dX10_denialDetail_24 e15 ?_
      obtain rfl := Option.some.inj e
      exact z_iret E M dX10_denialDetail_27 rfl rfl rfl rfl (by decide) (by decide)
    · refine z_if_eqF (tgt := 23) E dX10_denialDetail_16 rfl (zb_nf c13) ?_
      refine z_iconst E dX10_denialDetail_19 ic_0 ?_
      refine z_goto (tgt := 27) E dX10_denialDetail_20 rfl ?_
      obtain rfl := Option.some.inj e
      exact z_iret E M dX10_denialDetail_27 rfl rfl rfl rfl (by decide) (by decide)
theorem c_X10_denialDetail {l : Launch} (hl : l.stackTraces = false) {h : PH} {a0 : Nat} {r : (Int32 × PH)} (e : f_X10_denialDetail h a0 = some r) : CMet l yX10_denialDetail (z_W yX10_denialDetail cX10_denialDetail 1 (some .int)) rmX10_denialDetail h [.ref a0] (.inr (some (.int r.1))) r.2 :=
  z_met hl Y_X10_denialDetail (by decide +kernel) (Nat.le_of_ble_eq_true rfl) (fun X hX E T0 M => b_X10_denialDetail E T0 e M)
abbrev rmX9_denialCause : Room := { frames := 7, cells := 2, slots := 12, locals := 112 }
noncomputable def f_X9_denialCause (h : PH) (a0 : Nat) : Option (String ⊕ Int32) :=
  (gd h a0 11).bind fun _ =>
  (f_X9_needDenial h a0).bind fun p2 =>
  Sum.elim
    (fun E4 =>
    some (Sum.inl E4))
    (fun y6 =>
    (rdR h a0 11 6).bind fun x7 =>
    (rdI h x7 5 2).bind fun x9 =>
    if ¬ x9 = 0 then
      (rdR h a0 11 6).bind fun x12 =>
      (rdI h x12 5 2).bind fun x14 =>
      some (Sum.inr x14)
    else
      some (Sum.inl "java/util/NoSuchElementException")) p2
theorem b_X9_denialCause {X : PX} (E : z_E X cX9_denialCause RX9 "denialCause" 1 rmX9_denialCause (some .int)) (T0 : z_T0 X) {h : PH} {a0 : Nat} {r : (String ⊕ Int32)} (e : f_X9_denialCause h a0 = some r) (M : z_M X rmX9_denialCause.cells rmX9_denialCause.slots (zoI r) h) : WP X 1 0 0 0 [(0, .ref a0)] [] h := by
  unfold f_X9_denialCause at e
  refine z_aload_n E 0 dX9_denialCause_0 rfl ?_
  obtain ⟨_, e1, e⟩ := ob e
  obtain ⟨p2, e3, e⟩ := ob e
  rcases os e with ⟨E4, c5, e⟩ | ⟨y6, c5, e⟩
  · obtain rfl := Option.some.inj e
    refine z_kX2 (st := []) (av := [.ref a0]) E 1 6 (z_rV (st := []) (av := []) E Y_X9_needDenial k_X9_284 (ci := 11) rfl (zc_o (c_X9_needDenial (z_El E) e3) (by rw [c5]; rfl)) dX9_denialCause_1 e1 rfl rfl (by decide) (by decide) (by decide) (by decide) (Nat.zero_le _)) rfl rfl rfl ?_
    exact z_outX E T0 M rfl rfl (by decide) (by decide)
  · refine z_kV2 (st := []) (av := [.ref a0]) E 1 6 (z_rV (st := []) (av := []) E Y_X9_needDenial k_X9_284 (ci := 11) rfl (zc_o (c_X9_needDenial (z_El E) e3) (by rw [c5]; rfl)) dX9_denialCause_1 e1 rfl rfl (by decide) (by decide) (by decide) (by decide) (Nat.zero_le _)) rfl rfl rfl ?_
    refine z_aload_n E 0 dX9_denialCause_4 rfl ?_
    obtain ⟨x7, e8, e⟩ := ob e
    refine z_getR E fl_X9_50 dX9_denialCause_5 e8 ?_
    obtain ⟨x9, e10, e⟩ := ob e
    refine z_getI E fl_X9_293 dX9_denialCause_8 e10 ?_
    rcases oi e with ⟨c11, e⟩ | ⟨c11, e⟩
    · refine z_if_neT (tgt := 25) E dX9_denialCause_11 rfl c11 ?_
      refine z_aload_n E 0 dX9_denialCause_25 rfl ?_
      obtain ⟨x12, e13, e⟩ := ob e
      refine z_getR E fl_X9_50 dX9_denialCause_26 e13 ?_
      obtain ⟨x14, e15, e⟩ := ob e
      refine z_getI E fl_X9_293 dX9_denialCause_29 e15 ?_
      obtain rfl := Option.some.inj e
      exact z_iret E M dX9_denialCause_32 rfl rfl rfl rfl (by decide) (by decide)
    · refine z_if_neF (tgt := 25) E dX9_denialCause_11 rfl (Classical.not_not.mp c11) ?_
      obtain rfl := Option.some.inj e
      exact z_throw E 7 th_X9_120_296_124 T0 M dX9_denialCause_14 dX9_denialCause_17 (Or.inr ⟨dX9_denialCause_18, rfl⟩) dX9_denialCause_21 dX9_denialCause_24 rfl rfl (by decide) (Nat.le_of_ble_eq_true rfl) (by decide) (by decide) (by decide) (by decide)
theorem c_X9_denialCause {l : Launch} (hl : l.stackTraces = false) {h : PH} {a0 : Nat} {r : (String ⊕ Int32)} (e : f_X9_denialCause h a0 = some r) : CMet l yX9_denialCause (z_W yX9_denialCause cX9_denialCause 1 (some .int)) rmX9_denialCause h [.ref a0] (zoI r) h :=
  z_met hl Y_X9_denialCause (by decide +kernel) (Nat.le_of_ble_eq_true rfl) (fun X hX E T0 M => b_X9_denialCause E T0 e M)
abbrev rmL_denialCause : Room := { frames := 8, cells := 2, slots := 12, locals := 132 }
noncomputable def f_L_denialCause (h : PH) (a0 : Nat) (a1 : Nat) : Option (Int32 × PH) :=
  (gd h a0 11).bind fun _ =>
  (f_X9_denialCause h a0).bind fun p2 =>
  Sum.elim
    (fun E4 =>
    if E4 = "java/util/NoSuchElementException" then
      some ((1 : Int32), h)
    else none)
    (fun y6 =>
    (asL h a1 (0 : Int32) y6.toInt64).bind fun h8 =>
    some ((0 : Int32), h8)) p2
theorem b_L_denialCause {X : PX} (E : z_E X cL_denialCause RL "denialCause" 3 rmL_denialCause (some .int)) (TT : z_TT X [(0, 8, 11, 20)]) {h : PH} {a0 : Nat} {a1 : Nat} {r : (Int32 × PH)} (e : f_L_denialCause h a0 a1 = some r) (M : z_M X rmL_denialCause.cells rmL_denialCause.slots (.inr (some (.int r.1))) r.2) : WP X 3 0 0 0 [(0, .ref a0), (1, .ref a1)] [] h := by
  unfold f_L_denialCause at e
  refine z_aload_n E 1 dL_denialCause_0 rfl ?_
  refine z_iconst E dL_denialCause_1 ic_0 ?_
  refine z_aload_n E 0 dL_denialCause_2 rfl ?_
  obtain ⟨_, e1, e⟩ := ob e
  obtain ⟨p2, e3, e⟩ := ob e
  rcases os e with ⟨E4, c5, e⟩ | ⟨y6, c5, e⟩
  · rcases oi e with ⟨c7, e⟩ | ⟨c7, e⟩
    · subst c7
      refine z_kX2 (st := [.int (0 : Int32), .ref a1]) (av := [.ref a0]) E 2 12 (z_rV (st := [.int (0 : Int32), .ref a1]) (av := []) E Y_X9_denialCause k_L_142 (ci := 11) rfl (zc_o (c_X9_denialCause (z_El E) e3) (by rw [c5]; rfl)) dL_denialCause_3 e1 rfl rfl (by decide) (by decide) (by decide) (by decide) (Nat.le_of_ble_eq_true rfl)) rfl rfl rfl ?_
      refine z_catch (lv2 := [(0, .ref a0), (1, .ref a1)]) E TT 0 (q := (0, 8, 11, 20)) rfl rfl (by decide) cl_L_20 kb_NoSuchElementException (fun z hz => nomatch hz) (Or.inl ⟨_, dL_denialCause_11, rfl, rfl⟩) (by decide) rfl ?_
      refine z_iconst E dL_denialCause_12 ic_1 ?_
      obtain rfl := Option.some.inj e
      exact z_iret E M dL_denialCause_13 rfl rfl rfl rfl (by decide) (by decide)
    cases e
  · refine z_kR2 (st := [.int (0 : Int32), .ref a1]) (av := [.ref a0]) E 2 12 (z_rV (st := [.int (0 : Int32), .ref a1]) (av := []) E Y_X9_denialCause k_L_142 (ci := 11) rfl (zc_o (c_X9_denialCause (z_El E) e3) (by rw [c5]; rfl)) dL_denialCause_3 e1 rfl rfl (by decide) (by decide) (by decide) (by decide) (Nat.le_of_ble_eq_true rfl)) rfl rfl rfl ?_
    refine z_i2l (v := y6.toInt64) E dL_denialCause_6 rfl ?_
    obtain ⟨h8, e9, e⟩ := ob e
    refine z_last E dL_denialCause_7 e9 ?_
    refine z_goto (tgt := 14) E dL_denialCause_8 rfl ?_
    refine z_iconst E dL_denialCause_14 ic_0 ?_
    obtain rfl := Option.some.inj e
    exact z_iret E M dL_denialCause_15 rfl rfl rfl rfl (by decide) (by decide)
theorem c_L_denialCause {l : Launch} (hl : l.stackTraces = false) {h : PH} {a0 : Nat} {a1 : Nat} {r : (Int32 × PH)} (e : f_L_denialCause h a0 a1 = some r) : CMet l yL_denialCause (z_WH yL_denialCause cL_denialCause 3 (some .int) [(0, 8, 11, 20)]) rmL_denialCause h [.ref a0, .ref a1] (.inr (some (.int r.1))) r.2 :=
  z_metH hl Y_L_denialCause (by decide +kernel) (Nat.le_of_ble_eq_true rfl) (fun X hX E T0 M => b_L_denialCause E T0 e M)
abbrev rmX10_denialCause : Room := { frames := 1, cells := 0, slots := 0, locals := 21 }
noncomputable def f_X10_denialCause (h : PH) (a0 : Nat) : Option (Int32 × PH) :=
  (rdI h a0 12 11).bind fun x1 =>
  if ¬ x1 = 0 then
    (gd h a0 12).bind fun _ =>
    (f_X10_fails h a0 (0 : Int32)).bind fun p5 =>
    if p5.1 = false then
      (rdI p5.2 a0 12 11).bind fun x8 =>
      some (x8, p5.2)
    else
      some ((0 : Int32), p5.2)
  else
    (gd h a0 12).bind fun _ =>
    (f_X10_fails h a0 (1 : Int32)).bind fun p11 =>
    if p11.1 = false then
      (rdI p11.2 a0 12 11).bind fun x14 =>
      some (x14, p11.2)
    else
      some ((0 : Int32), p11.2)
theorem b_X10_denialCause {X : PX} (E : z_E X cX10_denialCause RX10 "denialCause" 1 rmX10_denialCause (some .int)) (T0 : z_T0 X) {h : PH} {a0 : Nat} {r : (Int32 × PH)} (e : f_X10_denialCause h a0 = some r) (M : z_M X rmX10_denialCause.cells rmX10_denialCause.slots (.inr (some (.int r.1))) r.2) : WP X 1 0 0 0 [(0, .ref a0)] [] h := by
  unfold f_X10_denialCause at e
  refine z_aload_n E 0 dX10_denialCause_0 rfl ?_
  refine z_aload_n E 0 dX10_denialCause_1 rfl ?_
  obtain ⟨x1, e2, e⟩ := ob e
  refine z_getI E fl_X10_49 dX10_denialCause_2 e2 ?_
  rcases oi e with ⟨c3, e⟩ | ⟨c3, e⟩
  · refine z_if_neT (tgt := 12) E dX10_denialCause_5 rfl c3 ?_
    refine z_iconst E dX10_denialCause_12 ic_0 ?_
    obtain ⟨_, e4, e⟩ := ob e
    obtain ⟨p5, e6, e⟩ := ob e
    refine z_kR2 (st := []) (av := [.ref a0, .int (0 : Int32)]) E 0 0 (z_rV (st := []) (av := [.int (0 : Int32)]) E Y_X10_fails k_X10_70 (ci := 12) rfl (c_X10_fails (z_El E) e6) dX10_denialCause_13 e4 rfl rfl (by decide) (by decide) (by decide) (by decide) (Nat.zero_le _)) rfl rfl rfl ?_
    rcases oi e with ⟨c7, e⟩ | ⟨c7, e⟩
    · refine z_if_eqT (tgt := 23) E dX10_denialCause_16 rfl (zb_f c7) ?_
      refine z_aload_n E 0 dX10_denialCause_23 rfl ?_
      obtain ⟨x8, e9, e⟩ := ob e
      refine z_getI E fl_X10_49 dX10_denialCause_24 e9 ?_
      obtain rfl := Option.some.inj e
      exact z_iret E M dX10_denialCause_27 rfl rfl rfl rfl (by decide) (by decide)
    · refine z_if_eqF (tgt := 23) E dX10_denialCause_16 rfl (zb_nf c7) ?_
      refine z_iconst E dX10_denialCause_19 ic_0 ?_
      refine z_goto (tgt := 27) E dX10_denialCause_20 rfl ?_
      obtain rfl := Option.some.inj e
      exact z_iret E M dX10_denialCause_27 rfl rfl rfl rfl (by decide) (by decide)
  · refine z_if_neF (tgt := 12) E dX10_denialCause_5 rfl (Classical.not_not.mp c3) ?_
    refine z_iconst E dX10_denialCause_8 ic_1 ?_
    refine z_goto (tgt := 13) E dX10_denialCause_9 rfl ?_
    obtain ⟨_, e10, e⟩ := ob e
    obtain ⟨p11, e12, e⟩ := ob e
    refine z_kR2 (st := []) (av := [.ref a0, .int (1 : Int32)]) E 0 0 (z_rV (st := []) (av := [.int (1 : Int32)]) E Y_X10_fails k_X10_70 (ci := 12) rfl (c_X10_fails (z_El E) e12) dX10_denialCause_13 e10 rfl rfl (by decide) (by decide) (by decide) (by decide) (Nat.zero_le _)) rfl rfl rfl ?_
    rcases oi e with ⟨c13, e⟩ | ⟨c13, e⟩
    · refine z_if_eqT (tgt := 23) E dX10_denialCause_16 rfl (zb_f c13) ?_
      refine z_aload_n E 0 dX10_denialCause_23 rfl ?_
      obtain ⟨x14, e15, e⟩ := ob e
      refine z_getI E fl_X10_49 dX10_denialCause_24 e15 ?_
      obtain rfl := Option.some.inj e
      exact z_iret E M dX10_denialCause_27 rfl rfl rfl rfl (by decide) (by decide)
    · refine z_if_eqF (tgt := 23) E dX10_denialCause_16 rfl (zb_nf c13) ?_
      refine z_iconst E dX10_denialCause_19 ic_0 ?_
      refine z_goto (tgt := 27) E dX10_denialCause_20 rfl ?_
      obtain rfl := Option.some.inj e
      exact z_iret E M dX10_denialCause_27 rfl rfl rfl rfl (by decide) (by decide)
theorem c_X10_denialCause {l : Launch} (hl : l.stackTraces = false) {h : PH} {a0 : Nat} {r : (Int32 × PH)} (e : f_X10_denialCause h a0 = some r) : CMet l yX10_denialCause (z_W yX10_denialCause cX10_denialCause 1 (some .int)) rmX10_denialCause h [.ref a0] (.inr (some (.int r.1))) r.2 :=
  z_met hl Y_X10_denialCause (by decide +kernel) (Nat.le_of_ble_eq_true rfl) (fun X hX E T0 M => b_X10_denialCause E T0 e M)
abbrev rmX4_takeBack : Room := { frames := 2, cells := 0, slots := 0, locals := 81 }
noncomputable def f_X4_takeBack (h : PH) (a0 : Nat) (a1 : Nat) : Option PH :=
  (rdI h a0 7 1).bind fun x1 =>
  (rdR h a0 7 0).bind fun x3 =>
  (alQ h x3 (zrem ((x1 + (8 : Int32)) - (1 : Int32)) (8 : Int32))).bind fun x5 =>
  zoc x5
    ((rdI h a0 7 2).bind fun x9 =>
    if x9 ≤ 0 then
      some h
    else
      some h)
    (fun y8 =>
    (rdI h a0 7 2).bind fun x12 =>
    if x12 ≤ 0 then
      some h
    else
      (gd h a1 9).bind fun _ =>
      (f_X7_copyFrom h a1 y8).bind fun p16 =>
      (wr p16 a0 7 1 (.int (zrem ((x1 + (8 : Int32)) - (1 : Int32)) (8 : Int32)))).bind fun h18 =>
      (rdI h18 a0 7 2).bind fun x20 =>
      (wr h18 a0 7 2 (.int (x20 - (1 : Int32)))).bind fun h22 =>
      some h22)
theorem b_X4_takeBack {X : PX} (E : z_E X cX4_takeBack RX4 "takeBack" 4 rmX4_takeBack none) (T0 : z_T0 X) {h : PH} {a0 : Nat} {a1 : Nat} {r : PH} (e : f_X4_takeBack h a0 a1 = some r) (M : z_M X rmX4_takeBack.cells rmX4_takeBack.slots (.inr none) r) : WP X 4 0 0 0 [(0, .ref a0), (1, .ref a1)] [] h := by
  unfold f_X4_takeBack at e
  refine z_aload_n E 0 dX4_takeBack_0 rfl ?_
  obtain ⟨x1, e2, e⟩ := ob e
  refine z_getI E fl_X4_17 dX4_takeBack_1 e2 ?_
  refine z_bipush E dX4_takeBack_4 bp_8 ?_
  refine z_iadd E dX4_takeBack_6 ?_
  refine z_iconst E dX4_takeBack_7 ic_1 ?_
  refine z_isub E dX4_takeBack_8 ?_
  refine z_bipush E dX4_takeBack_9 bp_8 ?_
  refine z_irem E dX4_takeBack_11 (by decide) ?_
  refine z_istore_n (lv2 := [(2, .int (zrem ((x1 + (8 : Int32)) - (1 : Int32)) (8 : Int32))), (0, .ref a0), (1, .ref a1)]) E dX4_takeBack_12 (by decide) rfl ?_
  refine z_aload_n E 1 dX4_takeBack_13 rfl ?_
  obtain ⟨x3, e4, e⟩ := ob e
  refine z_getR E fl_X4_11 dX4_takeBack_14 e4 ?_
  refine z_iload_n E 0 dX4_takeBack_17 rfl ?_
  obtain ⟨x5, e6, e⟩ := ob e
  refine z_aald E dX4_takeBack_18 e6 ?_
  rcases on e with ⟨c7, e⟩ | ⟨y8, c7, e⟩
  · subst c7
    refine z_astoreN_n (lv2 := [(3, .null), (2, .int (zrem ((x1 + (8 : Int32)) - (1 : Int32)) (8 : Int32))), (0, .ref a0), (1, .ref a1)]) E dX4_takeBack_19 (by decide) rfl ?_
    refine z_aload_n E 2 dX4_takeBack_20 rfl ?_
    obtain ⟨x9, e10, e⟩ := ob e
    refine z_getI E fl_X4_26 dX4_takeBack_21 e10 ?_
    rcases oi e with ⟨c11, e⟩ | ⟨c11, e⟩
    · refine z_if_leT (tgt := 51) E dX4_takeBack_24 rfl c11 ?_
      obtain rfl := Option.some.inj e
      exact z_vret E M dX4_takeBack_51 rfl rfl rfl (by decide) (by decide)
    · refine z_if_leF (tgt := 51) E dX4_takeBack_24 rfl c11 ?_
      refine z_aloadN_n E 0 dX4_takeBack_27 rfl ?_
      refine z_ifnullT (tgt := 51) E dX4_takeBack_28 rfl ?_
      obtain rfl := Option.some.inj e
      exact z_vret E M dX4_takeBack_51 rfl rfl rfl (by decide) (by decide)
  · subst c7
    refine z_astore_n (lv2 := [(3, .ref y8), (2, .int (zrem ((x1 + (8 : Int32)) - (1 : Int32)) (8 : Int32))), (0, .ref a0), (1, .ref a1)]) E dX4_takeBack_19 (by decide) rfl ?_
    refine z_aload_n E 2 dX4_takeBack_20 rfl ?_
    obtain ⟨x12, e13, e⟩ := ob e
    refine z_getI E fl_X4_26 dX4_takeBack_21 e13 ?_
    rcases oi e with ⟨c14, e⟩ | ⟨c14, e⟩
    · refine z_if_leT (tgt := 51) E dX4_takeBack_24 rfl c14 ?_
      obtain rfl := Option.some.inj e
      exact z_vret E M dX4_takeBack_51 rfl rfl rfl (by decide) (by decide)
    · refine z_if_leF (tgt := 51) E dX4_takeBack_24 rfl c14 ?_
      refine z_aload_n E 0 dX4_takeBack_27 rfl ?_
      refine z_ifnullF E dX4_takeBack_28 ?_
      refine z_aload_n E 3 dX4_takeBack_31 rfl ?_
      refine z_aload_n E 0 dX4_takeBack_32 rfl ?_
      obtain ⟨_, e15, e⟩ := ob e
      obtain ⟨p16, e17, e⟩ := ob e
      refine z_kV2 (st := []) (av := [.ref a1, .ref y8]) E 0 0 (z_rV (st := []) (av := [.ref y8]) E Y_X7_copyFrom k_X4_22 (ci := 9) rfl (c_X7_copyFrom (z_El E) e17) dX4_takeBack_33 e15 rfl rfl (by decide) (by decide) (by decide) (by decide) (Nat.zero_le _)) rfl rfl rfl ?_
      refine z_aload_n E 2 dX4_takeBack_36 rfl ?_
      refine z_iload_n E 1 dX4_takeBack_37 rfl ?_
      obtain ⟨h18, e19, e⟩ := ob e
      refine z_putI E fp_X4_17 (Or.inl rfl) dX4_takeBack_38 e19 ?_
      refine z_aload_n E 2 dX4_takeBack_41 rfl ?_
      refine z_dup E dX4_takeBack_42 rfl ?_
      obtain ⟨x20, e21, e⟩ := ob e
      refine z_getI E fl_X4_26 dX4_takeBack_43 e21 ?_
      refine z_iconst E dX4_takeBack_46 ic_1 ?_
      refine z_isub E dX4_takeBack_47 ?_
      obtain ⟨h22, e23, e⟩ := ob e
      refine z_putI E fp_X4_26 (Or.inl rfl) dX4_takeBack_48 e23 ?_
      obtain rfl := Option.some.inj e
      exact z_vret E M dX4_takeBack_51 rfl rfl rfl (by decide) (by decide)
theorem c_X4_takeBack {l : Launch} (hl : l.stackTraces = false) {h : PH} {a0 : Nat} {a1 : Nat} {r : PH} (e : f_X4_takeBack h a0 a1 = some r) : CMet l yX4_takeBack (z_W yX4_takeBack cX4_takeBack 4 none) rmX4_takeBack h [.ref a0, .ref a1] (.inr none) r :=
  z_met hl Y_X4_takeBack (by decide +kernel) (Nat.le_of_ble_eq_true rfl) (fun X hX E T0 M => b_X4_takeBack E T0 e M)
abbrev rmX9_undo : Room := { frames := 6, cells := 1, slots := 6, locals := 104 }
noncomputable def f_X9_undo (h : PH) (a0 : Nat) : Option ((String ⊕ Int32) × PH) :=
  (rdR h a0 11 2).bind fun x1 =>
  (rdI h x1 7 2).bind fun x3 =>
  if ¬ x3 = 0 then
    (rdR h a0 11 2).bind fun x6 =>
    (rdR h a0 11 0).bind fun x8 =>
    (gd h x6 7).bind fun _ =>
    (f_X4_takeBack h x6 x8).bind fun p11 =>
    (rdR p11 a0 11 2).bind fun x13 =>
    (rdI p11 x13 7 2).bind fun x15 =>
    some ((Sum.inr x15), p11)
  else
    some ((Sum.inl "java/lang/IllegalStateException"), h)
theorem b_X9_undo {X : PX} (E : z_E X cX9_undo RX9 "undo" 1 rmX9_undo (some .int)) (T0 : z_T0 X) {h : PH} {a0 : Nat} {r : ((String ⊕ Int32) × PH)} (e : f_X9_undo h a0 = some r) (M : z_M X rmX9_undo.cells rmX9_undo.slots (zoI r.1) r.2) : WP X 1 0 0 0 [(0, .ref a0)] [] h := by
  unfold f_X9_undo at e
  refine z_aload_n E 0 dX9_undo_0 rfl ?_
  obtain ⟨x1, e2, e⟩ := ob e
  refine z_getR E fl_X9_22 dX9_undo_1 e2 ?_
  obtain ⟨x3, e4, e⟩ := ob e
  refine z_getI E fl_X9_298 dX9_undo_4 e4 ?_
  rcases oi e with ⟨c5, e⟩ | ⟨c5, e⟩
  · refine z_if_neT (tgt := 21) E dX9_undo_7 rfl c5 ?_
    refine z_aload_n E 0 dX9_undo_21 rfl ?_
    obtain ⟨x6, e7, e⟩ := ob e
    refine z_getR E fl_X9_22 dX9_undo_22 e7 ?_
    refine z_aload_n E 0 dX9_undo_25 rfl ?_
    obtain ⟨x8, e9, e⟩ := ob e
    refine z_getR E fl_X9_12 dX9_undo_26 e9 ?_
    obtain ⟨_, e10, e⟩ := ob e
    obtain ⟨p11, e12, e⟩ := ob e
    refine z_kV2 (st := []) (av := [.ref x6, .ref x8]) E 0 0 (z_rV (st := []) (av := [.ref x8]) E Y_X4_takeBack k_X9_302 (ci := 7) rfl (c_X4_takeBack (z_El E) e12) dX9_undo_29 e10 rfl rfl (by decide) (by decide) (by decide) (by decide) (Nat.zero_le _)) rfl rfl rfl ?_
    refine z_aload_n E 0 dX9_undo_32 rfl ?_
    obtain ⟨x13, e14, e⟩ := ob e
    refine z_getR E fl_X9_22 dX9_undo_33 e14 ?_
    obtain ⟨x15, e16, e⟩ := ob e
    refine z_getI E fl_X9_298 dX9_undo_36 e16 ?_
    obtain rfl := Option.some.inj e
    exact z_iret E M dX9_undo_39 rfl rfl rfl rfl (by decide) (by decide)
  · refine z_if_neF (tgt := 21) E dX9_undo_7 rfl (Classical.not_not.mp c5) ?_
    obtain rfl := Option.some.inj e
    exact z_throw E 7 th_X9_214_300_218 T0 M dX9_undo_10 dX9_undo_13 (Or.inr ⟨dX9_undo_14, rfl⟩) dX9_undo_17 dX9_undo_20 rfl rfl (by decide) (Nat.le_of_ble_eq_true rfl) (by decide) (by decide) (by decide) (by decide)
theorem c_X9_undo {l : Launch} (hl : l.stackTraces = false) {h : PH} {a0 : Nat} {r : ((String ⊕ Int32) × PH)} (e : f_X9_undo h a0 = some r) : CMet l yX9_undo (z_W yX9_undo cX9_undo 1 (some .int)) rmX9_undo h [.ref a0] (zoI r.1) r.2 :=
  z_met hl Y_X9_undo (by decide +kernel) (Nat.le_of_ble_eq_true rfl) (fun X hX E T0 M => b_X9_undo E T0 e M)
abbrev rmL_undo : Room := { frames := 7, cells := 1, slots := 6, locals := 124 }
noncomputable def f_L_undo (h : PH) (a0 : Nat) (a1 : Nat) : Option (Int32 × PH) :=
  (gd h a0 11).bind fun _ =>
  (f_X9_undo h a0).bind fun p2 =>
  Sum.elim
    (fun E4 =>
    if E4 = "java/lang/IllegalStateException" then
      some ((1 : Int32), p2.2)
    else none)
    (fun y6 =>
    (asL p2.2 a1 (0 : Int32) y6.toInt64).bind fun h8 =>
    some ((0 : Int32), h8)) p2.1
theorem b_L_undo {X : PX} (E : z_E X cL_undo RL "undo" 3 rmL_undo (some .int)) (TT : z_TT X [(0, 8, 11, 122)]) {h : PH} {a0 : Nat} {a1 : Nat} {r : (Int32 × PH)} (e : f_L_undo h a0 a1 = some r) (M : z_M X rmL_undo.cells rmL_undo.slots (.inr (some (.int r.1))) r.2) : WP X 3 0 0 0 [(0, .ref a0), (1, .ref a1)] [] h := by
  unfold f_L_undo at e
  refine z_aload_n E 1 dL_undo_0 rfl ?_
  refine z_iconst E dL_undo_1 ic_0 ?_
  refine z_aload_n E 0 dL_undo_2 rfl ?_
  obtain ⟨_, e1, e⟩ := ob e
  obtain ⟨p2, e3, e⟩ := ob e
  rcases os e with ⟨E4, c5, e⟩ | ⟨y6, c5, e⟩
  · rcases oi e with ⟨c7, e⟩ | ⟨c7, e⟩
    · subst c7
      refine z_kX2 (st := [.int (0 : Int32), .ref a1]) (av := [.ref a0]) E 1 6 (z_rV (st := [.int (0 : Int32), .ref a1]) (av := []) E Y_X9_undo k_L_145 (ci := 11) rfl (zc_o (c_X9_undo (z_El E) e3) (by rw [c5]; rfl)) dL_undo_3 e1 rfl rfl (by decide) (by decide) (by decide) (by decide) (Nat.le_of_ble_eq_true rfl)) rfl rfl rfl ?_
      refine z_catch (lv2 := [(0, .ref a0), (1, .ref a1)]) E TT 0 (q := (0, 8, 11, 122)) rfl rfl (by decide) cl_L_122 kb_IllegalStateException (fun z hz => nomatch hz) (Or.inl ⟨_, dL_undo_11, rfl, rfl⟩) (by decide) rfl ?_
      refine z_iconst E dL_undo_12 ic_1 ?_
      obtain rfl := Option.some.inj e
      exact z_iret E M dL_undo_13 rfl rfl rfl rfl (by decide) (by decide)
    cases e
  · refine z_kR2 (st := [.int (0 : Int32), .ref a1]) (av := [.ref a0]) E 1 6 (z_rV (st := [.int (0 : Int32), .ref a1]) (av := []) E Y_X9_undo k_L_145 (ci := 11) rfl (zc_o (c_X9_undo (z_El E) e3) (by rw [c5]; rfl)) dL_undo_3 e1 rfl rfl (by decide) (by decide) (by decide) (by decide) (Nat.le_of_ble_eq_true rfl)) rfl rfl rfl ?_
    refine z_i2l (v := y6.toInt64) E dL_undo_6 rfl ?_
    obtain ⟨h8, e9, e⟩ := ob e
    refine z_last E dL_undo_7 e9 ?_
    refine z_goto (tgt := 14) E dL_undo_8 rfl ?_
    refine z_iconst E dL_undo_14 ic_0 ?_
    obtain rfl := Option.some.inj e
    exact z_iret E M dL_undo_15 rfl rfl rfl rfl (by decide) (by decide)
theorem c_L_undo {l : Launch} (hl : l.stackTraces = false) {h : PH} {a0 : Nat} {a1 : Nat} {r : (Int32 × PH)} (e : f_L_undo h a0 a1 = some r) : CMet l yL_undo (z_WH yL_undo cL_undo 3 (some .int) [(0, 8, 11, 122)]) rmL_undo h [.ref a0, .ref a1] (.inr (some (.int r.1))) r.2 :=
  z_metH hl Y_L_undo (by decide +kernel) (Nat.le_of_ble_eq_true rfl) (fun X hX E T0 M => b_L_undo E T0 e M)
abbrev rmX10_undo : Room := { frames := 1, cells := 0, slots := 0, locals := 24 }
noncomputable def f_X10_undo_J13 (h : PH) (v0 : Nat) (w0 : Int32) (w1 : Nat) : Option (Int32 × PH) :=
  (gd h w1 12).bind fun _ =>
  (f_X10_fails h w1 w0).bind fun p2 =>
  if p2.1 = false then
    (rdI p2.2 v0 12 5).bind fun x5 =>
    (wr p2.2 v0 12 5 (.int (x5 - (1 : Int32)))).bind fun h7 =>
    (rdR h7 v0 12 1).bind fun x9 =>
    (rdI h7 v0 12 5).bind fun x11 =>
    (rdR h7 v0 12 0).bind fun x13 =>
    (f_X10_copies h7 x9 ((99 : Int32) * x11) x13 (0 : Int32)).bind fun p15 =>
    (rdI p15 v0 12 5).bind fun x17 =>
    some (x17, p15)
  else
    some ((0 : Int32), p2.2)
theorem b_X10_undo_J13 {X : PX} (E : z_E X cX10_undo RX10 "undo" 1 rmX10_undo (some .int)) (T0 : z_T0 X) {k n : Nat} (hk : k + 0 ≤ rmX10_undo.cells) (hn : n + 0 ≤ rmX10_undo.slots) {h : PH} {v0 : Nat} {w0 : Int32} {w1 : Nat} {r : (Int32 × PH)} (e : f_X10_undo_J13 h v0 w0 w1 = some r) (M : z_M X rmX10_undo.cells rmX10_undo.slots (.inr (some (.int r.1))) r.2) : WP X 1 k n 13 [(0, .ref v0)] [.int w0, .ref w1] h := by
  unfold f_X10_undo_J13 at e
  obtain ⟨_, e1, e⟩ := ob e
  obtain ⟨p2, e3, e⟩ := ob e
  refine z_kR2 (st := []) (av := [.ref w1, .int w0]) E k n (z_rV (st := []) (av := [.int w0]) E Y_X10_fails k_X10_70 (ci := 12) rfl (c_X10_fails (z_El E) e3) dX10_undo_13 e1 rfl rfl (by decide) (by decide) (zk (k := k) (a := 0) hk (by decide)) (zk (k := n) (a := 0) hn (by decide)) (Nat.zero_le _)) rfl rfl rfl ?_
  rcases oi e with ⟨c4, e⟩ | ⟨c4, e⟩
  · refine z_if_eqT (tgt := 21) E dX10_undo_16 rfl (zb_f c4) ?_
    refine z_aload_n E 0 dX10_undo_21 rfl ?_
    refine z_dup E dX10_undo_22 rfl ?_
    obtain ⟨x5, e6, e⟩ := ob e
    refine z_getI E fl_X10_55 dX10_undo_23 e6 ?_
    refine z_iconst E dX10_undo_26 ic_1 ?_
    refine z_isub E dX10_undo_27 ?_
    obtain ⟨h7, e8, e⟩ := ob e
    refine z_putI E fp_X10_55 (Or.inl rfl) dX10_undo_28 e8 ?_
    refine z_aload_n E 0 dX10_undo_31 rfl ?_
    obtain ⟨x9, e10, e⟩ := ob e
    refine z_getR E fl_X10_13 dX10_undo_32 e10 ?_
    refine z_bipush E dX10_undo_35 bp_99 ?_
    refine z_aload_n E 0 dX10_undo_37 rfl ?_
    obtain ⟨x11, e12, e⟩ := ob e
    refine z_getI E fl_X10_55 dX10_undo_38 e12 ?_
    refine z_imul E dX10_undo_41 ?_
    refine z_aload_n E 0 dX10_undo_42 rfl ?_
    obtain ⟨x13, e14, e⟩ := ob e
    refine z_getR E fl_X10_7 dX10_undo_43 e14 ?_
    refine z_iconst E dX10_undo_46 ic_0 ?_
    obtain ⟨p15, e16, e⟩ := ob e
    refine z_kV2 (st := []) (av := [.ref x9, .int ((99 : Int32) * x11), .ref x13, .int (0 : Int32)]) E k n (z_rS (st := []) (av := [.ref x9, .int ((99 : Int32) * x11), .ref x13, .int (0 : Int32)]) E Y_X10_copies k_X10_58 (c_X10_copies (z_El E) e16) dX10_undo_47 rfl rfl (by decide) (by decide) (zk (k := k) (a := 0) hk (by decide)) (zk (k := n) (a := 0) hn (by decide)) (Nat.zero_le _)) rfl rfl rfl ?_
    refine z_aload_n E 0 dX10_undo_50 rfl ?_
    obtain ⟨x17, e18, e⟩ := ob e
    refine z_getI E fl_X10_55 dX10_undo_51 e18 ?_
    obtain rfl := Option.some.inj e
    exact z_iret E M dX10_undo_54 rfl rfl rfl rfl (zk (k := k) (a := 0) hk (by decide)) (zk (k := n) (a := 0) hn (by decide))
  · refine z_if_eqF (tgt := 21) E dX10_undo_16 rfl (zb_nf c4) ?_
    refine z_iconst E dX10_undo_19 ic_0 ?_
    obtain rfl := Option.some.inj e
    exact z_iret E M dX10_undo_20 rfl rfl rfl rfl (zk (k := k) (a := 0) hk (by decide)) (zk (k := n) (a := 0) hn (by decide))
noncomputable def f_X10_undo (h : PH) (a0 : Nat) : Option (Int32 × PH) :=
  (rdI h a0 12 5).bind fun x1 =>
  if ¬ x1 = 0 then
    f_X10_undo_J13 h a0 (0 : Int32) a0
  else
    f_X10_undo_J13 h a0 (1 : Int32) a0
theorem b_X10_undo {X : PX} (E : z_E X cX10_undo RX10 "undo" 1 rmX10_undo (some .int)) (T0 : z_T0 X) {h : PH} {a0 : Nat} {r : (Int32 × PH)} (e : f_X10_undo h a0 = some r) (M : z_M X rmX10_undo.cells rmX10_undo.slots (.inr (some (.int r.1))) r.2) : WP X 1 0 0 0 [(0, .ref a0)] [] h := by
  unfold f_X10_undo at e
  refine z_aload_n E 0 dX10_undo_0 rfl ?_
  refine z_aload_n E 0 dX10_undo_1 rfl ?_
  obtain ⟨x1, e2, e⟩ := ob e
  refine z_getI E fl_X10_55 dX10_undo_2 e2 ?_
  rcases oi e with ⟨c3, e⟩ | ⟨c3, e⟩
  · refine z_if_neT (tgt := 12) E dX10_undo_5 rfl c3 ?_
    refine z_iconst E dX10_undo_12 ic_0 ?_
    exact z_sub [0] rfl (b_X10_undo_J13 E T0 (by decide) (by decide) e M)
  · refine z_if_neF (tgt := 12) E dX10_undo_5 rfl (Classical.not_not.mp c3) ?_
    refine z_iconst E dX10_undo_8 ic_1 ?_
    refine z_goto (tgt := 13) E dX10_undo_9 rfl ?_
    exact z_sub [0] rfl (b_X10_undo_J13 E T0 (by decide) (by decide) e M)
theorem c_X10_undo {l : Launch} (hl : l.stackTraces = false) {h : PH} {a0 : Nat} {r : (Int32 × PH)} (e : f_X10_undo h a0 = some r) : CMet l yX10_undo (z_W yX10_undo cX10_undo 1 (some .int)) rmX10_undo h [.ref a0] (.inr (some (.int r.1))) r.2 :=
  z_met hl Y_X10_undo (by decide +kernel) (Nat.le_of_ble_eq_true rfl) (fun X hX E T0 M => b_X10_undo E T0 e M)
abbrev rmX9_undoCount : Room := { frames := 0, cells := 0, slots := 0, locals := 0 }
noncomputable def f_X9_undoCount (h : PH) (a0 : Nat) : Option Int32 :=
  (rdR h a0 11 2).bind fun x1 =>
  (rdI h x1 7 2).bind fun x3 =>
  some x3
theorem b_X9_undoCount {X : PX} (E : z_E X cX9_undoCount RX9 "undoCount" 1 rmX9_undoCount (some .int)) (T0 : z_T0 X) {h : PH} {a0 : Nat} {r : Int32} (e : f_X9_undoCount h a0 = some r) (M : z_M X rmX9_undoCount.cells rmX9_undoCount.slots (.inr (some (.int r))) h) : WP X 1 0 0 0 [(0, .ref a0)] [] h := by
  unfold f_X9_undoCount at e
  refine z_aload_n E 0 dX9_undoCount_0 rfl ?_
  obtain ⟨x1, e2, e⟩ := ob e
  refine z_getR E fl_X9_22 dX9_undoCount_1 e2 ?_
  obtain ⟨x3, e4, e⟩ := ob e
  refine z_getI E fl_X9_298 dX9_undoCount_4 e4 ?_
  obtain rfl := Option.some.inj e
  exact z_iret E M dX9_undoCount_7 rfl rfl rfl rfl (by decide) (by decide)
theorem c_X9_undoCount {l : Launch} (hl : l.stackTraces = false) {h : PH} {a0 : Nat} {r : Int32} (e : f_X9_undoCount h a0 = some r) : CMet l yX9_undoCount (z_W yX9_undoCount cX9_undoCount 1 (some .int)) rmX9_undoCount h [.ref a0] (.inr (some (.int r))) h :=
  z_met hl Y_X9_undoCount (by decide +kernel) (Nat.le_of_ble_eq_true rfl) (fun X hX E T0 M => b_X9_undoCount E T0 e M)
abbrev rmX10_undoCount : Room := { frames := 0, cells := 0, slots := 0, locals := 0 }
noncomputable def f_X10_undoCount (h : PH) (a0 : Nat) : Option (Int32 × PH) :=
  (wr h a0 12 8 (.int (0 : Int32))).bind fun h1 =>
  (rdI h1 a0 12 5).bind fun x3 =>
  some (x3, h1)
theorem b_X10_undoCount {X : PX} (E : z_E X cX10_undoCount RX10 "undoCount" 1 rmX10_undoCount (some .int)) (T0 : z_T0 X) {h : PH} {a0 : Nat} {r : (Int32 × PH)} (e : f_X10_undoCount h a0 = some r) (M : z_M X rmX10_undoCount.cells rmX10_undoCount.slots (.inr (some (.int r.1))) r.2) : WP X 1 0 0 0 [(0, .ref a0)] [] h := by
  unfold f_X10_undoCount at e
  refine z_aload_n E 0 dX10_undoCount_0 rfl ?_
  refine z_iconst E dX10_undoCount_1 ic_0 ?_
  obtain ⟨h1, e2, e⟩ := ob e
  refine z_putI E fp_X10_36 (Or.inl rfl) dX10_undoCount_2 e2 ?_
  refine z_aload_n E 0 dX10_undoCount_5 rfl ?_
  obtain ⟨x3, e4, e⟩ := ob e
  refine z_getI E fl_X10_55 dX10_undoCount_6 e4 ?_
  obtain rfl := Option.some.inj e
  exact z_iret E M dX10_undoCount_9 rfl rfl rfl rfl (by decide) (by decide)
theorem c_X10_undoCount {l : Launch} (hl : l.stackTraces = false) {h : PH} {a0 : Nat} {r : (Int32 × PH)} (e : f_X10_undoCount h a0 = some r) : CMet l yX10_undoCount (z_W yX10_undoCount cX10_undoCount 1 (some .int)) rmX10_undoCount h [.ref a0] (.inr (some (.int r.1))) r.2 :=
  z_met hl Y_X10_undoCount (by decide +kernel) (Nat.le_of_ble_eq_true rfl) (fun X hX E T0 M => b_X10_undoCount E T0 e M)
abbrev rmX9_saveSnapshot : Room := { frames := 2, cells := 11, slots := 111, locals := 81 }
noncomputable def f_X9_saveSnapshot (h : PH) (a0 : Nat) : Option (Int32 × PH) :=
  (rdO h a0 11 8).bind fun x1 =>
  zoc x1
    ((f_X7_init (nwO 9 [.int 0, .null, .null, .null, .null, .null, .null, .null, .int 0, .null, .null, .null, .int 0, .int 0, .int 0, .int 0, .int 0] h) h.1).bind fun p5 =>
    (wr p5 a0 11 8 (.ref h.1)).bind fun h7 =>
    (rdR h7 a0 11 8).bind fun x9 =>
    (rdR h7 a0 11 0).bind fun x11 =>
    (gd h7 x9 9).bind fun _ =>
    (f_X7_copyFrom h7 x9 x11).bind fun p14 =>
    (rdR p14 a0 11 0).bind fun x16 =>
    (rdI p14 x16 9 0).bind fun x18 =>
    some (x18, p14))
    (fun y4 =>
    (rdR h a0 11 8).bind fun x20 =>
    (rdR h a0 11 0).bind fun x22 =>
    (gd h x20 9).bind fun _ =>
    (f_X7_copyFrom h x20 x22).bind fun p25 =>
    (rdR p25 a0 11 0).bind fun x27 =>
    (rdI p25 x27 9 0).bind fun x29 =>
    some (x29, p25))
theorem b_X9_saveSnapshot {X : PX} (E : z_E X cX9_saveSnapshot RX9 "saveSnapshot" 1 rmX9_saveSnapshot (some .int)) (T0 : z_T0 X) {h : PH} {a0 : Nat} {r : (Int32 × PH)} (e : f_X9_saveSnapshot h a0 = some r) (M : z_M X rmX9_saveSnapshot.cells rmX9_saveSnapshot.slots (.inr (some (.int r.1))) r.2) : WP X 1 0 0 0 [(0, .ref a0)] [] h := by
  unfold f_X9_saveSnapshot at e
  refine z_aload_n E 0 dX9_saveSnapshot_0 rfl ?_
  obtain ⟨x1, e2, e⟩ := ob e
  refine z_getO E fl_X9_305 dX9_saveSnapshot_1 e2 ?_
  rcases on e with ⟨c3, e⟩ | ⟨y4, c3, e⟩
  · subst c3
    refine z_ifnonnullF E dX9_saveSnapshot_4 ?_
    refine z_aload_n E 0 dX9_saveSnapshot_7 rfl ?_
    refine z_nwO E nw_X9_9 dX9_saveSnapshot_8 (by decide) (by decide) ?_
    refine z_kn 1 20 rfl rfl ?_
    refine z_dup E dX9_saveSnapshot_11 rfl ?_
    obtain ⟨p5, e6, e⟩ := ob e
    refine z_kV2 (st := [.ref h.1, .ref a0]) (av := [.ref h.1]) E 11 111 (z_rI (st := [.ref h.1, .ref a0]) (av := []) E Y_X7_init k_X9_11 (c_X7_init (z_El E) e6) dX9_saveSnapshot_12 rfl rfl (by decide) (by decide) (by decide) (by decide) (Nat.le_of_ble_eq_true rfl)) rfl rfl rfl ?_
    obtain ⟨h7, e8, e⟩ := ob e
    refine z_putR E fp_X9_305 (Or.inl ⟨_, rfl⟩) (Or.inl rfl) dX9_saveSnapshot_15 e8 ?_
    refine z_aload_n E 0 dX9_saveSnapshot_18 rfl ?_
    obtain ⟨x9, e10, e⟩ := ob e
    refine z_getR E fl_X9_305 dX9_saveSnapshot_19 e10 ?_
    refine z_aload_n E 0 dX9_saveSnapshot_22 rfl ?_
    obtain ⟨x11, e12, e⟩ := ob e
    refine z_getR E fl_X9_12 dX9_saveSnapshot_23 e12 ?_
    obtain ⟨_, e13, e⟩ := ob e
    obtain ⟨p14, e15, e⟩ := ob e
    refine z_kV2 (st := []) (av := [.ref x9, .ref x11]) E 11 111 (z_rV (st := []) (av := [.ref x11]) E Y_X7_copyFrom k_X9_237 (ci := 9) rfl (c_X7_copyFrom (z_El E) e15) dX9_saveSnapshot_26 e13 rfl rfl (by decide) (by decide) (by decide) (by decide) (Nat.zero_le _)) rfl rfl rfl ?_
    refine z_aload_n E 0 dX9_saveSnapshot_29 rfl ?_
    obtain ⟨x16, e17, e⟩ := ob e
    refine z_getR E fl_X9_12 dX9_saveSnapshot_30 e17 ?_
    obtain ⟨x18, e19, e⟩ := ob e
    refine z_getI E fl_X9_65 dX9_saveSnapshot_33 e19 ?_
    obtain rfl := Option.some.inj e
    exact z_iret E M dX9_saveSnapshot_36 rfl rfl rfl rfl (by decide) (by decide)
  · subst c3
    refine z_ifnonnullT (tgt := 18) E dX9_saveSnapshot_4 rfl ?_
    refine z_aload_n E 0 dX9_saveSnapshot_18 rfl ?_
    obtain ⟨x20, e21, e⟩ := ob e
    refine z_getR E fl_X9_305 dX9_saveSnapshot_19 e21 ?_
    refine z_aload_n E 0 dX9_saveSnapshot_22 rfl ?_
    obtain ⟨x22, e23, e⟩ := ob e
    refine z_getR E fl_X9_12 dX9_saveSnapshot_23 e23 ?_
    obtain ⟨_, e24, e⟩ := ob e
    obtain ⟨p25, e26, e⟩ := ob e
    refine z_kV2 (st := []) (av := [.ref x20, .ref x22]) E 0 0 (z_rV (st := []) (av := [.ref x22]) E Y_X7_copyFrom k_X9_237 (ci := 9) rfl (c_X7_copyFrom (z_El E) e26) dX9_saveSnapshot_26 e24 rfl rfl (by decide) (by decide) (by decide) (by decide) (Nat.zero_le _)) rfl rfl rfl ?_
    refine z_aload_n E 0 dX9_saveSnapshot_29 rfl ?_
    obtain ⟨x27, e28, e⟩ := ob e
    refine z_getR E fl_X9_12 dX9_saveSnapshot_30 e28 ?_
    obtain ⟨x29, e30, e⟩ := ob e
    refine z_getI E fl_X9_65 dX9_saveSnapshot_33 e30 ?_
    obtain rfl := Option.some.inj e
    exact z_iret E M dX9_saveSnapshot_36 rfl rfl rfl rfl (by decide) (by decide)
theorem c_X9_saveSnapshot {l : Launch} (hl : l.stackTraces = false) {h : PH} {a0 : Nat} {r : (Int32 × PH)} (e : f_X9_saveSnapshot h a0 = some r) : CMet l yX9_saveSnapshot (z_W yX9_saveSnapshot cX9_saveSnapshot 1 (some .int)) rmX9_saveSnapshot h [.ref a0] (.inr (some (.int r.1))) r.2 :=
  z_met hl Y_X9_saveSnapshot (by decide +kernel) (Nat.le_of_ble_eq_true rfl) (fun X hX E T0 M => b_X9_saveSnapshot E T0 e M)
abbrev rmX10_saveSnapshot : Room := { frames := 1, cells := 0, slots := 0, locals := 24 }
noncomputable def f_X10_saveSnapshot (h : PH) (a0 : Nat) : Option (Int32 × PH) :=
  (wr h a0 12 8 (.int (0 : Int32))).bind fun h1 =>
  (wr h1 a0 12 4 (.int (1 : Int32))).bind fun h3 =>
  (rdR h3 a0 12 0).bind fun x5 =>
  (rdR h3 a0 12 2).bind fun x7 =>
  (f_X10_copies h3 x5 (0 : Int32) x7 (0 : Int32)).bind fun p9 =>
  (rdR p9 a0 12 0).bind fun x11 =>
  (alI .int p9 x11 (0 : Int32)).bind fun x13 =>
  some (x13, p9)
theorem b_X10_saveSnapshot {X : PX} (E : z_E X cX10_saveSnapshot RX10 "saveSnapshot" 1 rmX10_saveSnapshot (some .int)) (T0 : z_T0 X) {h : PH} {a0 : Nat} {r : (Int32 × PH)} (e : f_X10_saveSnapshot h a0 = some r) (M : z_M X rmX10_saveSnapshot.cells rmX10_saveSnapshot.slots (.inr (some (.int r.1))) r.2) : WP X 1 0 0 0 [(0, .ref a0)] [] h := by
  unfold f_X10_saveSnapshot at e
  refine z_aload_n E 0 dX10_saveSnapshot_0 rfl ?_
  refine z_iconst E dX10_saveSnapshot_1 ic_0 ?_
  obtain ⟨h1, e2, e⟩ := ob e
  refine z_putI E fp_X10_36 (Or.inl rfl) dX10_saveSnapshot_2 e2 ?_
  refine z_aload_n E 0 dX10_saveSnapshot_5 rfl ?_
  refine z_iconst E dX10_saveSnapshot_6 ic_1 ?_
  obtain ⟨h3, e4, e⟩ := ob e
  refine z_putV E fp_X10_298 (Or.inl rfl) dX10_saveSnapshot_7 e4 (fun _ => ⟨rfl, rfl⟩) ?_
  refine z_aload_n E 0 dX10_saveSnapshot_10 rfl ?_
  obtain ⟨x5, e6, e⟩ := ob e
  refine z_getR E fl_X10_7 dX10_saveSnapshot_11 e6 ?_
  refine z_iconst E dX10_saveSnapshot_14 ic_0 ?_
  refine z_aload_n E 0 dX10_saveSnapshot_15 rfl ?_
  obtain ⟨x7, e8, e⟩ := ob e
  refine z_getR E fl_X10_16 dX10_saveSnapshot_16 e8 ?_
  refine z_iconst E dX10_saveSnapshot_19 ic_0 ?_
  obtain ⟨p9, e10, e⟩ := ob e
  refine z_kV2 (st := []) (av := [.ref x5, .int (0 : Int32), .ref x7, .int (0 : Int32)]) E 0 0 (z_rS (st := []) (av := [.ref x5, .int (0 : Int32), .ref x7, .int (0 : Int32)]) E Y_X10_copies k_X10_58 (c_X10_copies (z_El E) e10) dX10_saveSnapshot_20 rfl rfl (by decide) (by decide) (by decide) (by decide) (Nat.zero_le _)) rfl rfl rfl ?_
  refine z_aload_n E 0 dX10_saveSnapshot_23 rfl ?_
  obtain ⟨x11, e12, e⟩ := ob e
  refine z_getR E fl_X10_7 dX10_saveSnapshot_24 e12 ?_
  refine z_iconst E dX10_saveSnapshot_27 ic_0 ?_
  obtain ⟨x13, e14, e⟩ := ob e
  refine z_iald E dX10_saveSnapshot_28 e14 ?_
  obtain rfl := Option.some.inj e
  exact z_iret E M dX10_saveSnapshot_29 rfl rfl rfl rfl (by decide) (by decide)
theorem c_X10_saveSnapshot {l : Launch} (hl : l.stackTraces = false) {h : PH} {a0 : Nat} {r : (Int32 × PH)} (e : f_X10_saveSnapshot h a0 = some r) : CMet l yX10_saveSnapshot (z_W yX10_saveSnapshot cX10_saveSnapshot 1 (some .int)) rmX10_saveSnapshot h [.ref a0] (.inr (some (.int r.1))) r.2 :=
  z_met hl Y_X10_saveSnapshot (by decide +kernel) (Nat.le_of_ble_eq_true rfl) (fun X hX E T0 M => b_X10_saveSnapshot E T0 e M)
abbrev rmX4_forget : Room := { frames := 0, cells := 0, slots := 0, locals := 0 }
noncomputable def f_X4_forget (h : PH) (a0 : Nat) : Option PH :=
  (wr h a0 7 2 (.int (0 : Int32))).bind fun h1 =>
  some h1
theorem b_X4_forget {X : PX} (E : z_E X cX4_forget RX4 "forget" 1 rmX4_forget none) (T0 : z_T0 X) {h : PH} {a0 : Nat} {r : PH} (e : f_X4_forget h a0 = some r) (M : z_M X rmX4_forget.cells rmX4_forget.slots (.inr none) r) : WP X 1 0 0 0 [(0, .ref a0)] [] h := by
  unfold f_X4_forget at e
  refine z_aload_n E 0 dX4_forget_0 rfl ?_
  refine z_iconst E dX4_forget_1 ic_0 ?_
  obtain ⟨h1, e2, e⟩ := ob e
  refine z_putI E fp_X4_26 (Or.inl rfl) dX4_forget_2 e2 ?_
  obtain rfl := Option.some.inj e
  exact z_vret E M dX4_forget_5 rfl rfl rfl (by decide) (by decide)
theorem c_X4_forget {l : Launch} (hl : l.stackTraces = false) {h : PH} {a0 : Nat} {r : PH} (e : f_X4_forget h a0 = some r) : CMet l yX4_forget (z_W yX4_forget cX4_forget 1 none) rmX4_forget h [.ref a0] (.inr none) r :=
  z_met hl Y_X4_forget (by decide +kernel) (Nat.le_of_ble_eq_true rfl) (fun X hX E T0 M => b_X4_forget E T0 e M)
abbrev rmX9_restoreSnapshot : Room := { frames := 6, cells := 1, slots := 6, locals := 92 }
noncomputable def f_X9_restoreSnapshot (h : PH) (a0 : Nat) : Option ((String ⊕ Int32) × PH) :=
  (rdO h a0 11 8).bind fun x1 =>
  zoc x1
    (some ((Sum.inl "java/lang/IllegalStateException"), h))
    (fun y4 =>
    (rdR h a0 11 0).bind fun x5 =>
    (rdR h a0 11 8).bind fun x7 =>
    (gd h x5 9).bind fun _ =>
    (f_X7_copyFrom h x5 x7).bind fun p10 =>
    (rdR p10 a0 11 2).bind fun x12 =>
    (gd p10 x12 7).bind fun _ =>
    (f_X4_forget p10 x12).bind fun p15 =>
    (rdR p15 a0 11 0).bind fun x17 =>
    (rdI p15 x17 9 0).bind fun x19 =>
    some ((Sum.inr x19), p15))
theorem b_X9_restoreSnapshot {X : PX} (E : z_E X cX9_restoreSnapshot RX9 "restoreSnapshot" 1 rmX9_restoreSnapshot (some .int)) (T0 : z_T0 X) {h : PH} {a0 : Nat} {r : ((String ⊕ Int32) × PH)} (e : f_X9_restoreSnapshot h a0 = some r) (M : z_M X rmX9_restoreSnapshot.cells rmX9_restoreSnapshot.slots (zoI r.1) r.2) : WP X 1 0 0 0 [(0, .ref a0)] [] h := by
  unfold f_X9_restoreSnapshot at e
  refine z_aload_n E 0 dX9_restoreSnapshot_0 rfl ?_
  obtain ⟨x1, e2, e⟩ := ob e
  refine z_getO E fl_X9_305 dX9_restoreSnapshot_1 e2 ?_
  rcases on e with ⟨c3, e⟩ | ⟨y4, c3, e⟩
  · subst c3
    refine z_ifnonnullF E dX9_restoreSnapshot_4 ?_
    obtain rfl := Option.some.inj e
    exact z_throw E 7 th_X9_214_308_218 T0 M dX9_restoreSnapshot_7 dX9_restoreSnapshot_10 (Or.inr ⟨dX9_restoreSnapshot_11, rfl⟩) dX9_restoreSnapshot_14 dX9_restoreSnapshot_17 rfl rfl (by decide) (Nat.le_of_ble_eq_true rfl) (by decide) (by decide) (by decide) (by decide)
  · subst c3
    refine z_ifnonnullT (tgt := 18) E dX9_restoreSnapshot_4 rfl ?_
    refine z_aload_n E 0 dX9_restoreSnapshot_18 rfl ?_
    obtain ⟨x5, e6, e⟩ := ob e
    refine z_getR E fl_X9_12 dX9_restoreSnapshot_19 e6 ?_
    refine z_aload_n E 0 dX9_restoreSnapshot_22 rfl ?_
    obtain ⟨x7, e8, e⟩ := ob e
    refine z_getR E fl_X9_305 dX9_restoreSnapshot_23 e8 ?_
    obtain ⟨_, e9, e⟩ := ob e
    obtain ⟨p10, e11, e⟩ := ob e
    refine z_kV2 (st := []) (av := [.ref x5, .ref x7]) E 0 0 (z_rV (st := []) (av := [.ref x7]) E Y_X7_copyFrom k_X9_237 (ci := 9) rfl (c_X7_copyFrom (z_El E) e11) dX9_restoreSnapshot_26 e9 rfl rfl (by decide) (by decide) (by decide) (by decide) (Nat.zero_le _)) rfl rfl rfl ?_
    refine z_aload_n E 0 dX9_restoreSnapshot_29 rfl ?_
    obtain ⟨x12, e13, e⟩ := ob e
    refine z_getR E fl_X9_22 dX9_restoreSnapshot_30 e13 ?_
    obtain ⟨_, e14, e⟩ := ob e
    obtain ⟨p15, e16, e⟩ := ob e
    refine z_kV2 (st := []) (av := [.ref x12]) E 0 0 (z_rV (st := []) (av := []) E Y_X4_forget k_X9_310 (ci := 7) rfl (c_X4_forget (z_El E) e16) dX9_restoreSnapshot_33 e14 rfl rfl (by decide) (by decide) (by decide) (by decide) (Nat.zero_le _)) rfl rfl rfl ?_
    refine z_aload_n E 0 dX9_restoreSnapshot_36 rfl ?_
    obtain ⟨x17, e18, e⟩ := ob e
    refine z_getR E fl_X9_12 dX9_restoreSnapshot_37 e18 ?_
    obtain ⟨x19, e20, e⟩ := ob e
    refine z_getI E fl_X9_65 dX9_restoreSnapshot_40 e20 ?_
    obtain rfl := Option.some.inj e
    exact z_iret E M dX9_restoreSnapshot_43 rfl rfl rfl rfl (by decide) (by decide)
theorem c_X9_restoreSnapshot {l : Launch} (hl : l.stackTraces = false) {h : PH} {a0 : Nat} {r : ((String ⊕ Int32) × PH)} (e : f_X9_restoreSnapshot h a0 = some r) : CMet l yX9_restoreSnapshot (z_W yX9_restoreSnapshot cX9_restoreSnapshot 1 (some .int)) rmX9_restoreSnapshot h [.ref a0] (zoI r.1) r.2 :=
  z_met hl Y_X9_restoreSnapshot (by decide +kernel) (Nat.le_of_ble_eq_true rfl) (fun X hX E T0 M => b_X9_restoreSnapshot E T0 e M)
abbrev rmL_restoreSnapshot : Room := { frames := 7, cells := 1, slots := 6, locals := 112 }
noncomputable def f_L_restoreSnapshot (h : PH) (a0 : Nat) (a1 : Nat) : Option (Int32 × PH) :=
  (gd h a0 11).bind fun _ =>
  (f_X9_restoreSnapshot h a0).bind fun p2 =>
  Sum.elim
    (fun E4 =>
    if E4 = "java/lang/IllegalStateException" then
      some ((1 : Int32), p2.2)
    else none)
    (fun y6 =>
    (asL p2.2 a1 (0 : Int32) y6.toInt64).bind fun h8 =>
    some ((0 : Int32), h8)) p2.1
theorem b_L_restoreSnapshot {X : PX} (E : z_E X cL_restoreSnapshot RL "restoreSnapshot" 3 rmL_restoreSnapshot (some .int)) (TT : z_TT X [(0, 8, 11, 122)]) {h : PH} {a0 : Nat} {a1 : Nat} {r : (Int32 × PH)} (e : f_L_restoreSnapshot h a0 a1 = some r) (M : z_M X rmL_restoreSnapshot.cells rmL_restoreSnapshot.slots (.inr (some (.int r.1))) r.2) : WP X 3 0 0 0 [(0, .ref a0), (1, .ref a1)] [] h := by
  unfold f_L_restoreSnapshot at e
  refine z_aload_n E 1 dL_restoreSnapshot_0 rfl ?_
  refine z_iconst E dL_restoreSnapshot_1 ic_0 ?_
  refine z_aload_n E 0 dL_restoreSnapshot_2 rfl ?_
  obtain ⟨_, e1, e⟩ := ob e
  obtain ⟨p2, e3, e⟩ := ob e
  rcases os e with ⟨E4, c5, e⟩ | ⟨y6, c5, e⟩
  · rcases oi e with ⟨c7, e⟩ | ⟨c7, e⟩
    · subst c7
      refine z_kX2 (st := [.int (0 : Int32), .ref a1]) (av := [.ref a0]) E 1 6 (z_rV (st := [.int (0 : Int32), .ref a1]) (av := []) E Y_X9_restoreSnapshot k_L_148 (ci := 11) rfl (zc_o (c_X9_restoreSnapshot (z_El E) e3) (by rw [c5]; rfl)) dL_restoreSnapshot_3 e1 rfl rfl (by decide) (by decide) (by decide) (by decide) (Nat.le_of_ble_eq_true rfl)) rfl rfl rfl ?_
      refine z_catch (lv2 := [(0, .ref a0), (1, .ref a1)]) E TT 0 (q := (0, 8, 11, 122)) rfl rfl (by decide) cl_L_122 kb_IllegalStateException (fun z hz => nomatch hz) (Or.inl ⟨_, dL_restoreSnapshot_11, rfl, rfl⟩) (by decide) rfl ?_
      refine z_iconst E dL_restoreSnapshot_12 ic_1 ?_
      obtain rfl := Option.some.inj e
      exact z_iret E M dL_restoreSnapshot_13 rfl rfl rfl rfl (by decide) (by decide)
    cases e
  · refine z_kR2 (st := [.int (0 : Int32), .ref a1]) (av := [.ref a0]) E 1 6 (z_rV (st := [.int (0 : Int32), .ref a1]) (av := []) E Y_X9_restoreSnapshot k_L_148 (ci := 11) rfl (zc_o (c_X9_restoreSnapshot (z_El E) e3) (by rw [c5]; rfl)) dL_restoreSnapshot_3 e1 rfl rfl (by decide) (by decide) (by decide) (by decide) (Nat.le_of_ble_eq_true rfl)) rfl rfl rfl ?_
    refine z_i2l (v := y6.toInt64) E dL_restoreSnapshot_6 rfl ?_
    obtain ⟨h8, e9, e⟩ := ob e
    refine z_last E dL_restoreSnapshot_7 e9 ?_
    refine z_goto (tgt := 14) E dL_restoreSnapshot_8 rfl ?_
    refine z_iconst E dL_restoreSnapshot_14 ic_0 ?_
    obtain rfl := Option.some.inj e
    exact z_iret E M dL_restoreSnapshot_15 rfl rfl rfl rfl (by decide) (by decide)
theorem c_L_restoreSnapshot {l : Launch} (hl : l.stackTraces = false) {h : PH} {a0 : Nat} {a1 : Nat} {r : (Int32 × PH)} (e : f_L_restoreSnapshot h a0 a1 = some r) : CMet l yL_restoreSnapshot (z_WH yL_restoreSnapshot cL_restoreSnapshot 3 (some .int) [(0, 8, 11, 122)]) rmL_restoreSnapshot h [.ref a0, .ref a1] (.inr (some (.int r.1))) r.2 :=
  z_metH hl Y_L_restoreSnapshot (by decide +kernel) (Nat.le_of_ble_eq_true rfl) (fun X hX E T0 M => b_L_restoreSnapshot E T0 e M)
abbrev rmX10_restoreSnapshot : Room := { frames := 1, cells := 0, slots := 0, locals := 24 }
noncomputable def f_X10_restoreSnapshot_J13 (h : PH) (v0 : Nat) (w0 : Int32) (w1 : Nat) : Option (Int32 × PH) :=
  (gd h w1 12).bind fun _ =>
  (f_X10_fails h w1 w0).bind fun p2 =>
  if p2.1 = false then
    (rdR p2.2 v0 12 2).bind fun x5 =>
    (rdR p2.2 v0 12 0).bind fun x7 =>
    (f_X10_copies p2.2 x5 (0 : Int32) x7 (0 : Int32)).bind fun p9 =>
    (wr p9 v0 12 5 (.int (0 : Int32))).bind fun h11 =>
    (rdR h11 v0 12 0).bind fun x13 =>
    (alI .int h11 x13 (0 : Int32)).bind fun x15 =>
    some (x15, h11)
  else
    some ((0 : Int32), p2.2)
theorem b_X10_restoreSnapshot_J13 {X : PX} (E : z_E X cX10_restoreSnapshot RX10 "restoreSnapshot" 1 rmX10_restoreSnapshot (some .int)) (T0 : z_T0 X) {k n : Nat} (hk : k + 0 ≤ rmX10_restoreSnapshot.cells) (hn : n + 0 ≤ rmX10_restoreSnapshot.slots) {h : PH} {v0 : Nat} {w0 : Int32} {w1 : Nat} {r : (Int32 × PH)} (e : f_X10_restoreSnapshot_J13 h v0 w0 w1 = some r) (M : z_M X rmX10_restoreSnapshot.cells rmX10_restoreSnapshot.slots (.inr (some (.int r.1))) r.2) : WP X 1 k n 13 [(0, .ref v0)] [.int w0, .ref w1] h := by
  unfold f_X10_restoreSnapshot_J13 at e
  obtain ⟨_, e1, e⟩ := ob e
  obtain ⟨p2, e3, e⟩ := ob e
  refine z_kR2 (st := []) (av := [.ref w1, .int w0]) E k n (z_rV (st := []) (av := [.int w0]) E Y_X10_fails k_X10_70 (ci := 12) rfl (c_X10_fails (z_El E) e3) dX10_restoreSnapshot_13 e1 rfl rfl (by decide) (by decide) (zk (k := k) (a := 0) hk (by decide)) (zk (k := n) (a := 0) hn (by decide)) (Nat.zero_le _)) rfl rfl rfl ?_
  rcases oi e with ⟨c4, e⟩ | ⟨c4, e⟩
  · refine z_if_eqT (tgt := 21) E dX10_restoreSnapshot_16 rfl (zb_f c4) ?_
    refine z_aload_n E 0 dX10_restoreSnapshot_21 rfl ?_
    obtain ⟨x5, e6, e⟩ := ob e
    refine z_getR E fl_X10_16 dX10_restoreSnapshot_22 e6 ?_
    refine z_iconst E dX10_restoreSnapshot_25 ic_0 ?_
    refine z_aload_n E 0 dX10_restoreSnapshot_26 rfl ?_
    obtain ⟨x7, e8, e⟩ := ob e
    refine z_getR E fl_X10_7 dX10_restoreSnapshot_27 e8 ?_
    refine z_iconst E dX10_restoreSnapshot_30 ic_0 ?_
    obtain ⟨p9, e10, e⟩ := ob e
    refine z_kV2 (st := []) (av := [.ref x5, .int (0 : Int32), .ref x7, .int (0 : Int32)]) E k n (z_rS (st := []) (av := [.ref x5, .int (0 : Int32), .ref x7, .int (0 : Int32)]) E Y_X10_copies k_X10_58 (c_X10_copies (z_El E) e10) dX10_restoreSnapshot_31 rfl rfl (by decide) (by decide) (zk (k := k) (a := 0) hk (by decide)) (zk (k := n) (a := 0) hn (by decide)) (Nat.zero_le _)) rfl rfl rfl ?_
    refine z_aload_n E 0 dX10_restoreSnapshot_34 rfl ?_
    refine z_iconst E dX10_restoreSnapshot_35 ic_0 ?_
    obtain ⟨h11, e12, e⟩ := ob e
    refine z_putI E fp_X10_55 (Or.inl rfl) dX10_restoreSnapshot_36 e12 ?_
    refine z_aload_n E 0 dX10_restoreSnapshot_39 rfl ?_
    obtain ⟨x13, e14, e⟩ := ob e
    refine z_getR E fl_X10_7 dX10_restoreSnapshot_40 e14 ?_
    refine z_iconst E dX10_restoreSnapshot_43 ic_0 ?_
    obtain ⟨x15, e16, e⟩ := ob e
    refine z_iald E dX10_restoreSnapshot_44 e16 ?_
    obtain rfl := Option.some.inj e
    exact z_iret E M dX10_restoreSnapshot_45 rfl rfl rfl rfl (zk (k := k) (a := 0) hk (by decide)) (zk (k := n) (a := 0) hn (by decide))
  · refine z_if_eqF (tgt := 21) E dX10_restoreSnapshot_16 rfl (zb_nf c4) ?_
    refine z_iconst E dX10_restoreSnapshot_19 ic_0 ?_
    obtain rfl := Option.some.inj e
    exact z_iret E M dX10_restoreSnapshot_20 rfl rfl rfl rfl (zk (k := k) (a := 0) hk (by decide)) (zk (k := n) (a := 0) hn (by decide))
noncomputable def f_X10_restoreSnapshot (h : PH) (a0 : Nat) : Option (Int32 × PH) :=
  (rdI h a0 12 4).bind fun x1 =>
  if x1 = 0 then
    f_X10_restoreSnapshot_J13 h a0 (1 : Int32) a0
  else
    f_X10_restoreSnapshot_J13 h a0 (0 : Int32) a0
theorem b_X10_restoreSnapshot {X : PX} (E : z_E X cX10_restoreSnapshot RX10 "restoreSnapshot" 1 rmX10_restoreSnapshot (some .int)) (T0 : z_T0 X) {h : PH} {a0 : Nat} {r : (Int32 × PH)} (e : f_X10_restoreSnapshot h a0 = some r) (M : z_M X rmX10_restoreSnapshot.cells rmX10_restoreSnapshot.slots (.inr (some (.int r.1))) r.2) : WP X 1 0 0 0 [(0, .ref a0)] [] h := by
  unfold f_X10_restoreSnapshot at e
  refine z_aload_n E 0 dX10_restoreSnapshot_0 rfl ?_
  refine z_aload_n E 0 dX10_restoreSnapshot_1 rfl ?_
  obtain ⟨x1, e2, e⟩ := ob e
  refine z_getI E fl_X10_298 dX10_restoreSnapshot_2 e2 ?_
  rcases oi e with ⟨c3, e⟩ | ⟨c3, e⟩
  · refine z_if_eqT (tgt := 12) E dX10_restoreSnapshot_5 rfl c3 ?_
    refine z_iconst E dX10_restoreSnapshot_12 ic_1 ?_
    exact z_sub [0] rfl (b_X10_restoreSnapshot_J13 E T0 (by decide) (by decide) e M)
  · refine z_if_eqF (tgt := 12) E dX10_restoreSnapshot_5 rfl c3 ?_
    refine z_iconst E dX10_restoreSnapshot_8 ic_0 ?_
    refine z_goto (tgt := 13) E dX10_restoreSnapshot_9 rfl ?_
    exact z_sub [0] rfl (b_X10_restoreSnapshot_J13 E T0 (by decide) (by decide) e M)
theorem c_X10_restoreSnapshot {l : Launch} (hl : l.stackTraces = false) {h : PH} {a0 : Nat} {r : (Int32 × PH)} (e : f_X10_restoreSnapshot h a0 = some r) : CMet l yX10_restoreSnapshot (z_W yX10_restoreSnapshot cX10_restoreSnapshot 1 (some .int)) rmX10_restoreSnapshot h [.ref a0] (.inr (some (.int r.1))) r.2 :=
  z_met hl Y_X10_restoreSnapshot (by decide +kernel) (Nat.le_of_ble_eq_true rfl) (fun X hX E T0 M => b_X10_restoreSnapshot E T0 e M)
