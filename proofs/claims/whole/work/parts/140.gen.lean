abbrev rmJ7_fill_53178 : Room := { frames := 0, cells := 0, slots := 0, locals := 0 }
noncomputable def f_J7_fill_53178_L5 : Nat → PH → Nat → Int32 → Int32 → Int32 → Option PH
  | 0, _, _, _, _, _ => none
  | fu + 1, h, v0, v1, v2, v3 =>
    if v3 ≤ v2 then
      some h
    else
      (asI .int h v0 v2 v1).bind fun h2 =>
      f_J7_fill_53178_L5 fu h2 v0 v1 (v2 + (1 : Int32)) v3
theorem b_J7_fill_53178_L5 {X : PX} (E : z_E X cJ7_fill_53178 RJ7 "fill" 4 rmJ7_fill_53178 none) (T0 : z_T0 X) {k n : Nat} (hk : k + 0 ≤ rmJ7_fill_53178.cells) (hn : n + 0 ≤ rmJ7_fill_53178.slots) {s : PH} : ∀ (fu : Nat) (h : PH) (v0 : Nat) (v1 : Int32) (v2 : Int32) (v3 : Int32) (e : f_J7_fill_53178_L5 fu h v0 v1 v2 v3 = some s) (kk : WP X 4 k n 20 [] [] s), WP X 4 k n 5 [(0, .ref v0), (1, .int v1), (2, .int v2), (3, .int v3)] [] h := by
  intro fu
  induction fu with
  | zero => intro h v0 v1 v2 v3 e; exact absurd (show (none : Option PH) = some s from e) (by intro z; cases z)
  | succ fu ih =>
    intro h v0 v1 v2 v3 e kk
    unfold f_J7_fill_53178_L5 at e
    refine z_iload_n E 2 dJ7_fill_53178_5 rfl ?_
    refine z_iload_n E 3 dJ7_fill_53178_6 rfl ?_
    rcases oi e with ⟨c1, e⟩ | ⟨c1, e⟩
    · refine z_icmp_geT (tgt := 20) E dJ7_fill_53178_7 rfl c1 ?_
      obtain rfl := Option.some.inj e
      exact z_sub [] rfl kk
    · refine z_icmp_geF (tgt := 20) E dJ7_fill_53178_7 rfl c1 ?_
      refine z_aload_n E 0 dJ7_fill_53178_10 rfl ?_
      refine z_iload_n E 2 dJ7_fill_53178_11 rfl ?_
      refine z_iload_n E 1 dJ7_fill_53178_12 rfl ?_
      obtain ⟨h2, e3, e⟩ := ob e
      refine z_iast E dJ7_fill_53178_13 e3 ?_
      refine z_iinc (v := (v2 + (1 : Int32))) (lv2 := [(2, .int (v2 + (1 : Int32))), (0, .ref v0), (1, .int v1), (3, .int v3)]) E 2 dJ7_fill_53178_14 rfl (congrArg (v2 + ·) ic_1) (by decide) rfl ?_
      refine z_goto (tgt := 5) E dJ7_fill_53178_17 rfl ?_
      exact z_sub [1, 2, 0, 3] rfl (ih _ _ _ _ _ e kk)
noncomputable def f_J7_fill_53178 (h : PH) (a0 : Nat) (a1 : Int32) : Option PH :=
  (alA .int h a0).bind fun x1 =>
  (f_J7_fill_53178_L5 FV h a0 a1 (0 : Int32) x1).bind fun s3 =>
  some s3
theorem b_J7_fill_53178 {X : PX} (E : z_E X cJ7_fill_53178 RJ7 "fill" 4 rmJ7_fill_53178 none) (T0 : z_T0 X) {h : PH} {a0 : Nat} {a1 : Int32} {r : PH} (e : f_J7_fill_53178 h a0 a1 = some r) (M : z_M X rmJ7_fill_53178.cells rmJ7_fill_53178.slots (.inr none) r) : WP X 4 0 0 0 [(0, .ref a0), (1, .int a1)] [] h := by
  unfold f_J7_fill_53178 at e
  refine z_iconst E dJ7_fill_53178_0 ic_0 ?_
  refine z_istore_n (lv2 := [(2, .int (0 : Int32)), (0, .ref a0), (1, .int a1)]) E dJ7_fill_53178_1 (by decide) rfl ?_
  refine z_aload_n E 1 dJ7_fill_53178_2 rfl ?_
  obtain ⟨x1, e2, e⟩ := ob e
  refine z_alenA E 0 (fun _ => rfl) dJ7_fill_53178_3 e2 ?_
  refine z_istore_n (lv2 := [(3, .int x1), (2, .int (0 : Int32)), (0, .ref a0), (1, .int a1)]) E dJ7_fill_53178_4 (by decide) rfl ?_
  obtain ⟨s3, e4, e⟩ := ob e
  refine z_sub [2, 3, 1, 0] rfl (b_J7_fill_53178_L5 E T0 (by decide) (by decide) FV _ _ _ _ _ e4 ?_)
  obtain rfl := Option.some.inj e
  exact z_vret E M dJ7_fill_53178_20 rfl rfl rfl (by decide) (by decide)
theorem c_J7_fill_53178 {l : Launch} (hl : l.stackTraces = false) {h : PH} {a0 : Nat} {a1 : Int32} {r : PH} (e : f_J7_fill_53178 h a0 a1 = some r) : CMet l yJ7_fill_53178 (z_W yJ7_fill_53178 cJ7_fill_53178 4 none) rmJ7_fill_53178 h [.ref a0, .int a1] (.inr none) r :=
  z_met hl Y_J7_fill_53178 (by decide +kernel) (Nat.le_of_ble_eq_true rfl) (fun X hX E T0 M => b_J7_fill_53178 E T0 e M)
abbrev rmX7_init : Room := { frames := 1, cells := 10, slots := 91, locals := 23 }
noncomputable def f_X7_init (h : PH) (a0 : Nat) : Option PH :=
  (nwI .int 10 h (10 : Int32)).bind fun h1 =>
  (wr h1 a0 9 1 (.ref h.1)).bind fun h3 =>
  (nwI .int 10 h3 (10 : Int32)).bind fun h5 =>
  (wr h5 a0 9 2 (.ref h3.1)).bind fun h7 =>
  (nwI .char 10 h7 (10 : Int32)).bind fun h9 =>
  (wr h9 a0 9 3 (.ref h7.1)).bind fun h11 =>
  (nwI .int 10 h11 (10 : Int32)).bind fun h13 =>
  (wr h13 a0 9 4 (.ref h11.1)).bind fun h15 =>
  (nwI .int 12 h15 (12 : Int32)).bind fun h17 =>
  (wr h17 a0 9 5 (.ref h15.1)).bind fun h19 =>
  (nwI .int 12 h19 (12 : Int32)).bind fun h21 =>
  (wr h21 a0 9 6 (.ref h19.1)).bind fun h23 =>
  (nwI .int 12 h23 (12 : Int32)).bind fun h25 =>
  (wr h25 a0 9 7 (.ref h23.1)).bind fun h27 =>
  (nwI .int 5 h27 (5 : Int32)).bind fun h29 =>
  (wr h29 a0 9 9 (.ref h27.1)).bind fun h31 =>
  (nwI .int 5 h31 (5 : Int32)).bind fun h33 =>
  (wr h33 a0 9 10 (.ref h31.1)).bind fun h35 =>
  (nwI .int 5 h35 (5 : Int32)).bind fun h37 =>
  (wr h37 a0 9 11 (.ref h35.1)).bind fun h39 =>
  (wr h39 a0 9 14 (.int (100 : Int32))).bind fun h41 =>
  (rdR h41 a0 9 6).bind fun x43 =>
  (f_J7_fill_53178 h41 x43 (20 : Int32)).bind fun p45 =>
  some p45
theorem b_X7_init {X : PX} (E : z_E X cX7_init RX7 "<init>" 1 rmX7_init none) (T0 : z_T0 X) {h : PH} {a0 : Nat} {r : PH} (e : f_X7_init h a0 = some r) (M : z_M X rmX7_init.cells rmX7_init.slots (.inr none) r) : WP X 1 0 0 0 [(0, .ref a0)] [] h := by
  unfold f_X7_init at e
  refine z_aload_n E 0 dX7_init_0 rfl ?_
  refine z_objInit E oi_X7_3 dX7_init_1 (by decide) (Nat.le_of_ble_eq_true rfl) ?_
  refine z_aload_n E 0 dX7_init_4 rfl ?_
  refine z_bipush E dX7_init_5 bp_10 ?_
  obtain ⟨h1, e2, e⟩ := ob e
  refine z_nwI E 10 (by decide) ac_int dX7_init_7 e2 (by decide) (by decide) ?_
  refine z_kn 1 10 rfl rfl ?_
  obtain ⟨h3, e4, e⟩ := ob e
  refine z_putR E fp_X7_9 (Or.inr ⟨_, rfl⟩) (Or.inr rfl) dX7_init_9 e4 ?_
  refine z_aload_n E 0 dX7_init_12 rfl ?_
  refine z_bipush E dX7_init_13 bp_10 ?_
  obtain ⟨h5, e6, e⟩ := ob e
  refine z_nwI E 10 (by decide) ac_int dX7_init_15 e6 (by decide) (by decide) ?_
  refine z_kn 2 20 rfl rfl ?_
  obtain ⟨h7, e8, e⟩ := ob e
  refine z_putR E fp_X7_15 (Or.inr ⟨_, rfl⟩) (Or.inr rfl) dX7_init_17 e8 ?_
  refine z_aload_n E 0 dX7_init_20 rfl ?_
  refine z_bipush E dX7_init_21 bp_10 ?_
  obtain ⟨h9, e10, e⟩ := ob e
  refine z_nwC E 10 (by decide) ac_char dX7_init_23 e10 (by decide) (by decide) ?_
  refine z_kn 3 30 rfl rfl ?_
  obtain ⟨h11, e12, e⟩ := ob e
  refine z_putR E fp_X7_18 (Or.inr ⟨_, rfl⟩) (Or.inr rfl) dX7_init_25 e12 ?_
  refine z_aload_n E 0 dX7_init_28 rfl ?_
  refine z_bipush E dX7_init_29 bp_10 ?_
  obtain ⟨h13, e14, e⟩ := ob e
  refine z_nwI E 10 (by decide) ac_int dX7_init_31 e14 (by decide) (by decide) ?_
  refine z_kn 4 40 rfl rfl ?_
  obtain ⟨h15, e16, e⟩ := ob e
  refine z_putR E fp_X7_22 (Or.inr ⟨_, rfl⟩) (Or.inr rfl) dX7_init_33 e16 ?_
  refine z_aload_n E 0 dX7_init_36 rfl ?_
  refine z_bipush E dX7_init_37 bp_12 ?_
  obtain ⟨h17, e18, e⟩ := ob e
  refine z_nwI E 12 (by decide) ac_int dX7_init_39 e18 (by decide) (by decide) ?_
  refine z_kn 5 52 rfl rfl ?_
  obtain ⟨h19, e20, e⟩ := ob e
  refine z_putR E fp_X7_25 (Or.inr ⟨_, rfl⟩) (Or.inr rfl) dX7_init_41 e20 ?_
  refine z_aload_n E 0 dX7_init_44 rfl ?_
  refine z_bipush E dX7_init_45 bp_12 ?_
  obtain ⟨h21, e22, e⟩ := ob e
  refine z_nwI E 12 (by decide) ac_int dX7_init_47 e22 (by decide) (by decide) ?_
  refine z_kn 6 64 rfl rfl ?_
  obtain ⟨h23, e24, e⟩ := ob e
  refine z_putR E fp_X7_28 (Or.inr ⟨_, rfl⟩) (Or.inr rfl) dX7_init_49 e24 ?_
  refine z_aload_n E 0 dX7_init_52 rfl ?_
  refine z_bipush E dX7_init_53 bp_12 ?_
  obtain ⟨h25, e26, e⟩ := ob e
  refine z_nwI E 12 (by decide) ac_int dX7_init_55 e26 (by decide) (by decide) ?_
  refine z_kn 7 76 rfl rfl ?_
  obtain ⟨h27, e28, e⟩ := ob e
  refine z_putR E fp_X7_31 (Or.inr ⟨_, rfl⟩) (Or.inr rfl) dX7_init_57 e28 ?_
  refine z_aload_n E 0 dX7_init_60 rfl ?_
  refine z_iconst E dX7_init_61 ic_5 ?_
  obtain ⟨h29, e30, e⟩ := ob e
  refine z_nwI E 5 (by decide) ac_int dX7_init_62 e30 (by decide) (by decide) ?_
  refine z_kn 8 81 rfl rfl ?_
  obtain ⟨h31, e32, e⟩ := ob e
  refine z_putR E fp_X7_34 (Or.inr ⟨_, rfl⟩) (Or.inr rfl) dX7_init_64 e32 ?_
  refine z_aload_n E 0 dX7_init_67 rfl ?_
  refine z_iconst E dX7_init_68 ic_5 ?_
  obtain ⟨h33, e34, e⟩ := ob e
  refine z_nwI E 5 (by decide) ac_int dX7_init_69 e34 (by decide) (by decide) ?_
  refine z_kn 9 86 rfl rfl ?_
  obtain ⟨h35, e36, e⟩ := ob e
  refine z_putR E fp_X7_37 (Or.inr ⟨_, rfl⟩) (Or.inr rfl) dX7_init_71 e36 ?_
  refine z_aload_n E 0 dX7_init_74 rfl ?_
  refine z_iconst E dX7_init_75 ic_5 ?_
  obtain ⟨h37, e38, e⟩ := ob e
  refine z_nwI E 5 (by decide) ac_int dX7_init_76 e38 (by decide) (by decide) ?_
  refine z_kn 10 91 rfl rfl ?_
  obtain ⟨h39, e40, e⟩ := ob e
  refine z_putR E fp_X7_40 (Or.inr ⟨_, rfl⟩) (Or.inr rfl) dX7_init_78 e40 ?_
  refine z_aload_n E 0 dX7_init_81 rfl ?_
  refine z_bipush E dX7_init_82 bp_100 ?_
  obtain ⟨h41, e42, e⟩ := ob e
  refine z_putI E fp_X7_43 (Or.inl rfl) dX7_init_84 e42 ?_
  refine z_aload_n E 0 dX7_init_87 rfl ?_
  obtain ⟨x43, e44, e⟩ := ob e
  refine z_getR E fl_X7_28 dX7_init_88 e44 ?_
  refine z_bipush E dX7_init_91 bp_20 ?_
  obtain ⟨p45, e46, e⟩ := ob e
  refine z_kV2 (st := []) (av := [.ref x43, .int (20 : Int32)]) E 10 91 (z_rS (st := []) (av := [.ref x43, .int (20 : Int32)]) E Y_J7_fill_53178 k_X7_47 (c_J7_fill_53178 (z_El E) e46) dX7_init_93 rfl rfl (by decide) (by decide) (by decide) (by decide) (Nat.zero_le _)) rfl rfl rfl ?_
  obtain rfl := Option.some.inj e
  exact z_vret E M dX7_init_96 rfl rfl rfl (by decide) (by decide)
theorem c_X7_init {l : Launch} (hl : l.stackTraces = false) {h : PH} {a0 : Nat} {r : PH} (e : f_X7_init h a0 = some r) : CMet l yX7_init (z_W yX7_init cX7_init 1 none) rmX7_init h [.ref a0] (.inr none) r :=
  z_met hl Y_X7_init (by decide +kernel) (Nat.le_of_ble_eq_true rfl) (fun X hX E T0 M => b_X7_init E T0 e M)
abbrev rmX4_init : Room := { frames := 1, cells := 1, slots := 8, locals := 22 }
noncomputable def f_X4_init (h : PH) (a0 : Nat) : Option PH :=
  (nwQ 8 h (8 : Int32)).bind fun h1 =>
  (wr h1 a0 7 0 (.ref h.1)).bind fun h3 =>
  some h3
theorem b_X4_init {X : PX} (E : z_E X cX4_init RX4 "<init>" 1 rmX4_init none) (T0 : z_T0 X) {h : PH} {a0 : Nat} {r : PH} (e : f_X4_init h a0 = some r) (M : z_M X rmX4_init.cells rmX4_init.slots (.inr none) r) : WP X 1 0 0 0 [(0, .ref a0)] [] h := by
  unfold f_X4_init at e
  refine z_aload_n E 0 dX4_init_0 rfl ?_
  refine z_objInit E oi_X4_3 dX4_init_1 (by decide) (Nat.le_of_ble_eq_true rfl) ?_
  refine z_aload_n E 0 dX4_init_4 rfl ?_
  refine z_bipush E dX4_init_5 bp_8 ?_
  obtain ⟨h1, e2, e⟩ := ob e
  refine z_nwQ E 8 (by decide) cl_X4_9 dX4_init_7 e2 (by decide) (by decide) ?_
  refine z_kn 1 8 rfl rfl ?_
  obtain ⟨h3, e4, e⟩ := ob e
  refine z_putR E fp_X4_11 (Or.inr ⟨_, rfl⟩) (Or.inr rfl) dX4_init_10 e4 ?_
  obtain rfl := Option.some.inj e
  exact z_vret E M dX4_init_13 rfl rfl rfl (by decide) (by decide)
theorem c_X4_init {l : Launch} (hl : l.stackTraces = false) {h : PH} {a0 : Nat} {r : PH} (e : f_X4_init h a0 = some r) : CMet l yX4_init (z_W yX4_init cX4_init 1 none) rmX4_init h [.ref a0] (.inr none) r :=
  z_met hl Y_X4_init (by decide +kernel) (Nat.le_of_ble_eq_true rfl) (fun X hX E T0 M => b_X4_init E T0 e M)
abbrev rmX6_init : Room := { frames := 1, cells := 2, slots := 211, locals := 22 }
noncomputable def f_X6_init (h : PH) (a0 : Nat) : Option PH :=
  (nwI .int 199 h (199 : Int32)).bind fun h1 =>
  (wr h1 a0 8 0 (.ref h.1)).bind fun h3 =>
  (nwI .int 12 h3 (12 : Int32)).bind fun h5 =>
  (wr h5 a0 8 1 (.ref h3.1)).bind fun h7 =>
  some h7
theorem b_X6_init {X : PX} (E : z_E X cX6_init RX6 "<init>" 1 rmX6_init none) (T0 : z_T0 X) {h : PH} {a0 : Nat} {r : PH} (e : f_X6_init h a0 = some r) (M : z_M X rmX6_init.cells rmX6_init.slots (.inr none) r) : WP X 1 0 0 0 [(0, .ref a0)] [] h := by
  unfold f_X6_init at e
  refine z_aload_n E 0 dX6_init_0 rfl ?_
  refine z_objInit E oi_X6_3 dX6_init_1 (by decide) (Nat.le_of_ble_eq_true rfl) ?_
  refine z_aload_n E 0 dX6_init_4 rfl ?_
  refine z_sipush E dX6_init_5 sp_199 ?_
  obtain ⟨h1, e2, e⟩ := ob e
  refine z_nwI E 199 (by decide) ac_int dX6_init_8 e2 (by decide) (by decide) ?_
  refine z_kn 1 199 rfl rfl ?_
  obtain ⟨h3, e4, e⟩ := ob e
  refine z_putR E fp_X6_9 (Or.inr ⟨_, rfl⟩) (Or.inr rfl) dX6_init_10 e4 ?_
  refine z_aload_n E 0 dX6_init_13 rfl ?_
  refine z_bipush E dX6_init_14 bp_12 ?_
  obtain ⟨h5, e6, e⟩ := ob e
  refine z_nwI E 12 (by decide) ac_int dX6_init_16 e6 (by decide) (by decide) ?_
  refine z_kn 2 211 rfl rfl ?_
  obtain ⟨h7, e8, e⟩ := ob e
  refine z_putR E fp_X6_15 (Or.inr ⟨_, rfl⟩) (Or.inr rfl) dX6_init_18 e8 ?_
  obtain rfl := Option.some.inj e
  exact z_vret E M dX6_init_21 rfl rfl rfl (by decide) (by decide)
theorem c_X6_init {l : Launch} (hl : l.stackTraces = false) {h : PH} {a0 : Nat} {r : PH} (e : f_X6_init h a0 = some r) : CMet l yX6_init (z_W yX6_init cX6_init 1 none) rmX6_init h [.ref a0] (.inr none) r :=
  z_met hl Y_X6_init (by decide +kernel) (Nat.le_of_ble_eq_true rfl) (fun X hX E T0 M => b_X6_init E T0 e M)
abbrev rmX3_init : Room := { frames := 1, cells := 1, slots := 10, locals := 22 }
noncomputable def f_X3_init (h : PH) (a0 : Nat) : Option PH :=
  (nwI .int 10 h (10 : Int32)).bind fun h1 =>
  (wr h1 a0 6 0 (.ref h.1)).bind fun h3 =>
  some h3
theorem b_X3_init {X : PX} (E : z_E X cX3_init RX3 "<init>" 1 rmX3_init none) (T0 : z_T0 X) {h : PH} {a0 : Nat} {r : PH} (e : f_X3_init h a0 = some r) (M : z_M X rmX3_init.cells rmX3_init.slots (.inr none) r) : WP X 1 0 0 0 [(0, .ref a0)] [] h := by
  unfold f_X3_init at e
  refine z_aload_n E 0 dX3_init_0 rfl ?_
  refine z_objInit E oi_X3_3 dX3_init_1 (by decide) (Nat.le_of_ble_eq_true rfl) ?_
  refine z_aload_n E 0 dX3_init_4 rfl ?_
  refine z_bipush E dX3_init_5 bp_10 ?_
  obtain ⟨h1, e2, e⟩ := ob e
  refine z_nwI E 10 (by decide) ac_int dX3_init_7 e2 (by decide) (by decide) ?_
  refine z_kn 1 10 rfl rfl ?_
  obtain ⟨h3, e4, e⟩ := ob e
  refine z_putR E fp_X3_9 (Or.inr ⟨_, rfl⟩) (Or.inr rfl) dX3_init_9 e4 ?_
  obtain rfl := Option.some.inj e
  exact z_vret E M dX3_init_12 rfl rfl rfl (by decide) (by decide)
theorem c_X3_init {l : Launch} (hl : l.stackTraces = false) {h : PH} {a0 : Nat} {r : PH} (e : f_X3_init h a0 = some r) : CMet l yX3_init (z_W yX3_init cX3_init 1 none) rmX3_init h [.ref a0] (.inr none) r :=
  z_met hl Y_X3_init (by decide +kernel) (Nat.le_of_ble_eq_true rfl) (fun X hX E T0 M => b_X3_init E T0 e M)
abbrev rmX0_init : Room := { frames := 2, cells := 6, slots := 70, locals := 42 }
noncomputable def f_X0_init (h : PH) (a0 : Nat) : Option PH :=
  (nwI .int 10 h (10 : Int32)).bind fun h1 =>
  (wr h1 a0 4 0 (.ref h.1)).bind fun h3 =>
  (nwI .int 10 h3 (10 : Int32)).bind fun h5 =>
  (wr h5 a0 4 1 (.ref h3.1)).bind fun h7 =>
  (nwI .int 10 h7 (10 : Int32)).bind fun h9 =>
  (wr h9 a0 4 2 (.ref h7.1)).bind fun h11 =>
  (nwI .int 10 h11 (10 : Int32)).bind fun h13 =>
  (wr h13 a0 4 3 (.ref h11.1)).bind fun h15 =>
  (f_X3_init (nwO 6 [.null, .int 0, .int 0, .int 0] h15) h15.1).bind fun p17 =>
  (wr p17 a0 4 4 (.ref h15.1)).bind fun h19 =>
  some h19
theorem b_X0_init {X : PX} (E : z_E X cX0_init RX0 "<init>" 1 rmX0_init none) (T0 : z_T0 X) {h : PH} {a0 : Nat} {r : PH} (e : f_X0_init h a0 = some r) (M : z_M X rmX0_init.cells rmX0_init.slots (.inr none) r) : WP X 1 0 0 0 [(0, .ref a0)] [] h := by
  unfold f_X0_init at e
  refine z_aload_n E 0 dX0_init_0 rfl ?_
  refine z_objInit E oi_X0_3 dX0_init_1 (by decide) (Nat.le_of_ble_eq_true rfl) ?_
  refine z_aload_n E 0 dX0_init_4 rfl ?_
  refine z_bipush E dX0_init_5 bp_10 ?_
  obtain ⟨h1, e2, e⟩ := ob e
  refine z_nwI E 10 (by decide) ac_int dX0_init_7 e2 (by decide) (by decide) ?_
  refine z_kn 1 10 rfl rfl ?_
  obtain ⟨h3, e4, e⟩ := ob e
  refine z_putR E fp_X0_9 (Or.inr ⟨_, rfl⟩) (Or.inr rfl) dX0_init_9 e4 ?_
  refine z_aload_n E 0 dX0_init_12 rfl ?_
  refine z_bipush E dX0_init_13 bp_10 ?_
  obtain ⟨h5, e6, e⟩ := ob e
  refine z_nwI E 10 (by decide) ac_int dX0_init_15 e6 (by decide) (by decide) ?_
  refine z_kn 2 20 rfl rfl ?_
  obtain ⟨h7, e8, e⟩ := ob e
  refine z_putR E fp_X0_15 (Or.inr ⟨_, rfl⟩) (Or.inr rfl) dX0_init_17 e8 ?_
  refine z_aload_n E 0 dX0_init_20 rfl ?_
  refine z_bipush E dX0_init_21 bp_10 ?_
  obtain ⟨h9, e10, e⟩ := ob e
  refine z_nwI E 10 (by decide) ac_int dX0_init_23 e10 (by decide) (by decide) ?_
  refine z_kn 3 30 rfl rfl ?_
  obtain ⟨h11, e12, e⟩ := ob e
  refine z_putR E fp_X0_18 (Or.inr ⟨_, rfl⟩) (Or.inr rfl) dX0_init_25 e12 ?_
  refine z_aload_n E 0 dX0_init_28 rfl ?_
  refine z_bipush E dX0_init_29 bp_10 ?_
  obtain ⟨h13, e14, e⟩ := ob e
  refine z_nwI E 10 (by decide) ac_int dX0_init_31 e14 (by decide) (by decide) ?_
  refine z_kn 4 40 rfl rfl ?_
  obtain ⟨h15, e16, e⟩ := ob e
  refine z_putR E fp_X0_21 (Or.inr ⟨_, rfl⟩) (Or.inr rfl) dX0_init_33 e16 ?_
  refine z_aload_n E 0 dX0_init_36 rfl ?_
  refine z_nwO E nw_X0_24 dX0_init_37 (by decide) (by decide) ?_
  refine z_kn 5 60 rfl rfl ?_
  refine z_dup E dX0_init_40 rfl ?_
  obtain ⟨p17, e18, e⟩ := ob e
  refine z_kV2 (st := [.ref h15.1, .ref a0]) (av := [.ref h15.1]) E 6 70 (z_rIN (st := [.ref h15.1, .ref a0]) (av := []) E Y_X3_init k_X0_26 (c_X3_init (z_El E) e18) dX0_init_41 rfl rfl (by decide) (by decide) (by decide) (by decide) (Nat.le_of_ble_eq_true rfl)) rfl rfl rfl ?_
  obtain ⟨h19, e20, e⟩ := ob e
  refine z_putR E fp_X0_27 (Or.inl ⟨_, rfl⟩) (Or.inr rfl) dX0_init_44 e20 ?_
  obtain rfl := Option.some.inj e
  exact z_vret E M dX0_init_47 rfl rfl rfl (by decide) (by decide)
theorem c_X0_init {l : Launch} (hl : l.stackTraces = false) {h : PH} {a0 : Nat} {r : PH} (e : f_X0_init h a0 = some r) : CMet l yX0_init (z_W yX0_init cX0_init 1 none) rmX0_init h [.ref a0] (.inr none) r :=
  z_met hl Y_X0_init (by decide +kernel) (Nat.le_of_ble_eq_true rfl) (fun X hX E T0 M => b_X0_init E T0 e M)
abbrev rmX8_init : Room := { frames := 1, cells := 6, slots := 123, locals := 22 }
noncomputable def f_X8_init (h : PH) (a0 : Nat) : Option PH :=
  (nwI .char 60 h (60 : Int32)).bind fun h1 =>
  (wr h1 a0 10 0 (.ref h.1)).bind fun h3 =>
  (wr h3 a0 10 2 (.int (-1 : Int32))).bind fun h5 =>
  (nwI .int 15 h5 (15 : Int32)).bind fun h7 =>
  (wr h7 a0 10 4 (.ref h5.1)).bind fun h9 =>
  (nwI .int 15 h9 (15 : Int32)).bind fun h11 =>
  (wr h11 a0 10 5 (.ref h9.1)).bind fun h13 =>
  (nwI .int 15 h13 (15 : Int32)).bind fun h15 =>
  (wr h15 a0 10 6 (.ref h13.1)).bind fun h17 =>
  (nwI .int 15 h17 (15 : Int32)).bind fun h19 =>
  (wr h19 a0 10 7 (.ref h17.1)).bind fun h21 =>
  (nwI .int 3 h21 (3 : Int32)).bind fun h23 =>
  (wr h23 a0 10 9 (.ref h21.1)).bind fun h25 =>
  some h25
theorem b_X8_init {X : PX} (E : z_E X cX8_init RX8 "<init>" 1 rmX8_init none) (T0 : z_T0 X) {h : PH} {a0 : Nat} {r : PH} (e : f_X8_init h a0 = some r) (M : z_M X rmX8_init.cells rmX8_init.slots (.inr none) r) : WP X 1 0 0 0 [(0, .ref a0)] [] h := by
  unfold f_X8_init at e
  refine z_aload_n E 0 dX8_init_0 rfl ?_
  refine z_objInit E oi_X8_3 dX8_init_1 (by decide) (Nat.le_of_ble_eq_true rfl) ?_
  refine z_aload_n E 0 dX8_init_4 rfl ?_
  refine z_bipush E dX8_init_5 bp_60 ?_
  obtain ⟨h1, e2, e⟩ := ob e
  refine z_nwC E 60 (by decide) ac_char dX8_init_7 e2 (by decide) (by decide) ?_
  refine z_kn 1 60 rfl rfl ?_
  obtain ⟨h3, e4, e⟩ := ob e
  refine z_putR E fp_X8_9 (Or.inr ⟨_, rfl⟩) (Or.inr rfl) dX8_init_9 e4 ?_
  refine z_aload_n E 0 dX8_init_12 rfl ?_
  refine z_iconst E dX8_init_13 ic_m1 ?_
  obtain ⟨h5, e6, e⟩ := ob e
  refine z_putI E fp_X8_15 (Or.inl rfl) dX8_init_14 e6 ?_
  refine z_aload_n E 0 dX8_init_17 rfl ?_
  refine z_bipush E dX8_init_18 bp_15 ?_
  obtain ⟨h7, e8, e⟩ := ob e
  refine z_nwI E 15 (by decide) ac_int dX8_init_20 e8 (by decide) (by decide) ?_
  refine z_kn 2 75 rfl rfl ?_
  obtain ⟨h9, e10, e⟩ := ob e
  refine z_putR E fp_X8_19 (Or.inr ⟨_, rfl⟩) (Or.inr rfl) dX8_init_22 e10 ?_
  refine z_aload_n E 0 dX8_init_25 rfl ?_
  refine z_bipush E dX8_init_26 bp_15 ?_
  obtain ⟨h11, e12, e⟩ := ob e
  refine z_nwI E 15 (by decide) ac_int dX8_init_28 e12 (by decide) (by decide) ?_
  refine z_kn 3 90 rfl rfl ?_
  obtain ⟨h13, e14, e⟩ := ob e
  refine z_putR E fp_X8_23 (Or.inr ⟨_, rfl⟩) (Or.inr rfl) dX8_init_30 e14 ?_
  refine z_aload_n E 0 dX8_init_33 rfl ?_
  refine z_bipush E dX8_init_34 bp_15 ?_
  obtain ⟨h15, e16, e⟩ := ob e
  refine z_nwI E 15 (by decide) ac_int dX8_init_36 e16 (by decide) (by decide) ?_
  refine z_kn 4 105 rfl rfl ?_
  obtain ⟨h17, e18, e⟩ := ob e
  refine z_putR E fp_X8_26 (Or.inr ⟨_, rfl⟩) (Or.inr rfl) dX8_init_38 e18 ?_
  refine z_aload_n E 0 dX8_init_41 rfl ?_
  refine z_bipush E dX8_init_42 bp_15 ?_
  obtain ⟨h19, e20, e⟩ := ob e
  refine z_nwI E 15 (by decide) ac_int dX8_init_44 e20 (by decide) (by decide) ?_
  refine z_kn 5 120 rfl rfl ?_
  obtain ⟨h21, e22, e⟩ := ob e
  refine z_putR E fp_X8_29 (Or.inr ⟨_, rfl⟩) (Or.inr rfl) dX8_init_46 e22 ?_
  refine z_aload_n E 0 dX8_init_49 rfl ?_
  refine z_iconst E dX8_init_50 ic_3 ?_
  obtain ⟨h23, e24, e⟩ := ob e
  refine z_nwI E 3 (by decide) ac_int dX8_init_51 e24 (by decide) (by decide) ?_
  refine z_kn 6 123 rfl rfl ?_
  obtain ⟨h25, e26, e⟩ := ob e
  refine z_putR E fp_X8_32 (Or.inr ⟨_, rfl⟩) (Or.inr rfl) dX8_init_53 e26 ?_
  obtain rfl := Option.some.inj e
  exact z_vret E M dX8_init_56 rfl rfl rfl (by decide) (by decide)
theorem c_X8_init {l : Launch} (hl : l.stackTraces = false) {h : PH} {a0 : Nat} {r : PH} (e : f_X8_init h a0 = some r) : CMet l yX8_init (z_W yX8_init cX8_init 1 none) rmX8_init h [.ref a0] (.inr none) r :=
  z_met hl Y_X8_init (by decide +kernel) (Nat.le_of_ble_eq_true rfl) (fun X hX E T0 M => b_X8_init E T0 e M)
abbrev rmX2_init : Room := { frames := 1, cells := 0, slots := 0, locals := 22 }
noncomputable def f_X2_init (a0 : Nat) : Unit :=
  ()
theorem b_X2_init {X : PX} (E : z_E X cX2_init RX2 "<init>" 1 rmX2_init none) (T0 : z_T0 X) {h : PH} {a0 : Nat} {r : Unit} (e : f_X2_init a0 = r) (M : z_M X rmX2_init.cells rmX2_init.slots (.inr none) h) : WP X 1 0 0 0 [(0, .ref a0)] [] h := by
  unfold f_X2_init at e
  refine z_aload_n E 0 dX2_init_0 rfl ?_
  refine z_objInit E oi_X2_1 dX2_init_1 (by decide) (Nat.le_of_ble_eq_true rfl) ?_
  subst e
  exact z_vret E M dX2_init_4 rfl rfl rfl (by decide) (by decide)
theorem c_X2_init {l : Launch} (hl : l.stackTraces = false) {h : PH} (a0 : Nat) : CMet l yX2_init (z_W yX2_init cX2_init 1 none) rmX2_init h [.ref a0] (.inr none) h :=
  z_met hl Y_X2_init (by decide +kernel) (Nat.le_of_ble_eq_true rfl) (fun X hX E T0 M => b_X2_init E T0 rfl M)
abbrev rmJ5_init_d00df : Room := { frames := 1, cells := 1, slots := 64, locals := 22 }
noncomputable def f_J5_init_d00df (h : PH) (a0 : Nat) (a1 : Int32) : Option PH :=
  (nwI .byte 64 h a1).bind fun h1 =>
  (wr h1 a0 1 0 (.ref h.1)).bind fun h3 =>
  (wr h3 a0 1 1 (.int (0 : Int32))).bind fun h5 =>
  some h5
theorem b_J5_init_d00df {X : PX} (E : z_E X cJ5_init_d00df RJ5 "<init>" 2 rmJ5_init_d00df none) (T0 : z_T0 X) {h : PH} {a0 : Nat} {a1 : Int32} {r : PH} (e : f_J5_init_d00df h a0 a1 = some r) (M : z_M X rmJ5_init_d00df.cells rmJ5_init_d00df.slots (.inr none) r) : WP X 2 0 0 0 [(0, .ref a0), (1, .int a1)] [] h := by
  unfold f_J5_init_d00df at e
  refine z_aload_n E 0 dJ5_init_d00df_0 rfl ?_
  refine z_objInit E oi_J5_3 dJ5_init_d00df_1 (by decide) (Nat.le_of_ble_eq_true rfl) ?_
  refine z_gets E (List.mem_of_getElem? (i := 1) rfl) gs_J5_18 dJ5_init_d00df_4 ?_
  refine z_if_eqF (tgt := 25) E dJ5_init_d00df_7 rfl (by decide) ?_
  refine z_aload_n E 0 dJ5_init_d00df_10 rfl ?_
  refine z_iload_n E 1 dJ5_init_d00df_11 rfl ?_
  obtain ⟨h1, e2, e⟩ := ob e
  refine z_nwB E 64 (by decide) ac_byte dJ5_init_d00df_12 e2 (by decide) (by decide) ?_
  refine z_kn 1 64 rfl rfl ?_
  obtain ⟨h3, e4, e⟩ := ob e
  refine z_putR E fp_J5_15 (Or.inr ⟨_, rfl⟩) (Or.inl rfl) dJ5_init_d00df_14 e4 ?_
  refine z_aload_n E 0 dJ5_init_d00df_17 rfl ?_
  refine z_iconst E dJ5_init_d00df_18 ic_0 ?_
  obtain ⟨h5, e6, e⟩ := ob e
  refine z_putV E fp_J5_22 (Or.inl rfl) dJ5_init_d00df_19 e6 (fun _ => ⟨rfl, rfl⟩) ?_
  refine z_goto (tgt := 38) E dJ5_init_d00df_22 rfl ?_
  obtain rfl := Option.some.inj e
  exact z_vret E M dJ5_init_d00df_38 rfl rfl rfl (by decide) (by decide)
theorem c_J5_init_d00df {l : Launch} (hl : l.stackTraces = false) {h : PH} {a0 : Nat} {a1 : Int32} {r : PH} (e : f_J5_init_d00df h a0 a1 = some r) : CMet l yJ5_init_d00df (z_W yJ5_init_d00df cJ5_init_d00df 2 none) rmJ5_init_d00df h [.ref a0, .int a1] (.inr none) r :=
  z_met hl Y_J5_init_d00df (by decide +kernel) (Nat.le_of_ble_eq_true rfl) (fun X hX E T0 M => b_J5_init_d00df E T0 e M)
abbrev rmJ4_init_da8c8 : Room := { frames := 2, cells := 1, slots := 64, locals := 43 }
noncomputable def f_J4_init_da8c8 (h : PH) (a0 : Nat) : Option PH :=
  (f_J5_init_d00df h a0 (16 : Int32)).bind fun p1 =>
  some p1
theorem b_J4_init_da8c8 {X : PX} (E : z_E X cJ4_init_da8c8 RJ4 "<init>" 1 rmJ4_init_da8c8 none) (T0 : z_T0 X) {h : PH} {a0 : Nat} {r : PH} (e : f_J4_init_da8c8 h a0 = some r) (M : z_M X rmJ4_init_da8c8.cells rmJ4_init_da8c8.slots (.inr none) r) : WP X 1 0 0 0 [(0, .ref a0)] [] h := by
  unfold f_J4_init_da8c8 at e
  refine z_aload_n E 0 dJ4_init_da8c8_0 rfl ?_
  refine z_bipush E dJ4_init_da8c8_1 bp_16 ?_
  obtain ⟨p1, e2, e⟩ := ob e
  refine z_kV2 (st := []) (av := [.ref a0, .int (16 : Int32)]) E 1 64 (z_rI (st := []) (av := [.int (16 : Int32)]) E Y_J5_init_d00df k_J4_1 (c_J5_init_d00df (z_El E) e2) dJ4_init_da8c8_3 rfl rfl (by decide) (by decide) (by decide) (by decide) (Nat.zero_le _)) rfl rfl rfl ?_
  obtain rfl := Option.some.inj e
  exact z_vret E M dJ4_init_da8c8_6 rfl rfl rfl (by decide) (by decide)
theorem c_J4_init_da8c8 {l : Launch} (hl : l.stackTraces = false) {h : PH} {a0 : Nat} {r : PH} (e : f_J4_init_da8c8 h a0 = some r) : CMet l yJ4_init_da8c8 (z_W yJ4_init_da8c8 cJ4_init_da8c8 1 none) rmJ4_init_da8c8 h [.ref a0] (.inr none) r :=
  z_met hl Y_J4_init_da8c8 (by decide +kernel) (Nat.le_of_ble_eq_true rfl) (fun X hX E T0 M => b_J4_init_da8c8 E T0 e M)
abbrev rmX9_init : Room := { frames := 3, cells := 44, slots := 818, locals := 63 }
noncomputable def f_X9_init (h : PH) (a0 : Nat) : Option PH :=
  (f_X7_init (nwO 9 [.int 0, .null, .null, .null, .null, .null, .null, .null, .int 0, .null, .null, .null, .int 0, .int 0, .int 0, .int 0, .int 0] h) h.1).bind fun p1 =>
  (wr p1 a0 11 0 (.ref h.1)).bind fun h3 =>
  (f_X7_init (nwO 9 [.int 0, .null, .null, .null, .null, .null, .null, .null, .int 0, .null, .null, .null, .int 0, .int 0, .int 0, .int 0, .int 0] h3) h3.1).bind fun p5 =>
  (wr p5 a0 11 1 (.ref h3.1)).bind fun h7 =>
  (f_X4_init (nwO 7 [.null, .int 0, .int 0] h7) h7.1).bind fun p9 =>
  (wr p9 a0 11 2 (.ref h7.1)).bind fun h11 =>
  (f_X6_init (nwO 8 [.null, .null] h11) h11.1).bind fun p13 =>
  (wr p13 a0 11 3 (.ref h11.1)).bind fun h15 =>
  (f_X0_init (nwO 4 [.null, .null, .null, .null, .null] h15) h15.1).bind fun p17 =>
  (wr p17 a0 11 4 (.ref h15.1)).bind fun h19 =>
  (f_X8_init (nwO 10 [.null, .int 0, .int 0, .int 0, .null, .null, .null, .null, .int 0, .null, .int 0] h19) h19.1).bind fun p21 =>
  (wr p21 a0 11 5 (.ref h19.1)).bind fun h23 =>
  (wr (nwO 5 [.int 0, .int 0, .int 0] h23) a0 11 6 (.ref h23.1)).bind fun h25 =>
  (f_J4_init_da8c8 (nwO 1 [.null, .int 0, .int 0, .int 0] h25) h25.1).bind fun p27 =>
  (wr p27 a0 11 7 (.ref h25.1)).bind fun h29 =>
  some h29
theorem b_X9_init {X : PX} (E : z_E X cX9_init RX9 "<init>" 1 rmX9_init none) (T0 : z_T0 X) {h : PH} {a0 : Nat} {r : PH} (e : f_X9_init h a0 = some r) (M : z_M X rmX9_init.cells rmX9_init.slots (.inr none) r) : WP X 1 0 0 0 [(0, .ref a0)] [] h := by
  unfold f_X9_init at e
  refine z_aload_n E 0 dX9_init_0 rfl ?_
  refine z_objInit E oi_X9_3 dX9_init_1 (by decide) (Nat.le_of_ble_eq_true rfl) ?_
  refine z_aload_n E 0 dX9_init_4 rfl ?_
  refine z_nwO E nw_X9_9 dX9_init_5 (by decide) (by decide) ?_
  refine z_kn 1 20 rfl rfl ?_
  refine z_dup E dX9_init_8 rfl ?_
  obtain ⟨p1, e2, e⟩ := ob e
  refine z_kV2 (st := [.ref h.1, .ref a0]) (av := [.ref h.1]) E 11 111 (z_rI (st := [.ref h.1, .ref a0]) (av := []) E Y_X7_init k_X9_11 (c_X7_init (z_El E) e2) dX9_init_9 rfl rfl (by decide) (by decide) (by decide) (by decide) (Nat.le_of_ble_eq_true rfl)) rfl rfl rfl ?_
  obtain ⟨h3, e4, e⟩ := ob e
  refine z_putR E fp_X9_12 (Or.inl ⟨_, rfl⟩) (Or.inr rfl) dX9_init_12 e4 ?_
  refine z_aload_n E 0 dX9_init_15 rfl ?_
  refine z_nwO E nw_X9_9 dX9_init_16 (by decide) (by decide) ?_
  refine z_kn 12 131 rfl rfl ?_
  refine z_dup E dX9_init_19 rfl ?_
  obtain ⟨p5, e6, e⟩ := ob e
  refine z_kV2 (st := [.ref h3.1, .ref a0]) (av := [.ref h3.1]) E 22 222 (z_rI (st := [.ref h3.1, .ref a0]) (av := []) E Y_X7_init k_X9_11 (c_X7_init (z_El E) e6) dX9_init_20 rfl rfl (by decide) (by decide) (by decide) (by decide) (Nat.le_of_ble_eq_true rfl)) rfl rfl rfl ?_
  obtain ⟨h7, e8, e⟩ := ob e
  refine z_putR E fp_X9_16 (Or.inl ⟨_, rfl⟩) (Or.inr rfl) dX9_init_23 e8 ?_
  refine z_aload_n E 0 dX9_init_26 rfl ?_
  refine z_nwO E nw_X9_19 dX9_init_27 (by decide) (by decide) ?_
  refine z_kn 23 242 rfl rfl ?_
  refine z_dup E dX9_init_30 rfl ?_
  obtain ⟨p9, e10, e⟩ := ob e
  refine z_kV2 (st := [.ref h7.1, .ref a0]) (av := [.ref h7.1]) E 24 250 (z_rIN (st := [.ref h7.1, .ref a0]) (av := []) E Y_X4_init k_X9_21 (c_X4_init (z_El E) e10) dX9_init_31 rfl rfl (by decide) (by decide) (by decide) (by decide) (Nat.le_of_ble_eq_true rfl)) rfl rfl rfl ?_
  obtain ⟨h11, e12, e⟩ := ob e
  refine z_putR E fp_X9_22 (Or.inl ⟨_, rfl⟩) (Or.inr rfl) dX9_init_34 e12 ?_
  refine z_aload_n E 0 dX9_init_37 rfl ?_
  refine z_nwO E nw_X9_26 dX9_init_38 (by decide) (by decide) ?_
  refine z_kn 25 270 rfl rfl ?_
  refine z_dup E dX9_init_41 rfl ?_
  obtain ⟨p13, e14, e⟩ := ob e
  refine z_kV2 (st := [.ref h11.1, .ref a0]) (av := [.ref h11.1]) E 27 481 (z_rIN (st := [.ref h11.1, .ref a0]) (av := []) E Y_X6_init k_X9_28 (c_X6_init (z_El E) e14) dX9_init_42 rfl rfl (by decide) (by decide) (by decide) (by decide) (Nat.le_of_ble_eq_true rfl)) rfl rfl rfl ?_
  obtain ⟨h15, e16, e⟩ := ob e
  refine z_putR E fp_X9_29 (Or.inl ⟨_, rfl⟩) (Or.inr rfl) dX9_init_45 e16 ?_
  refine z_aload_n E 0 dX9_init_48 rfl ?_
  refine z_nwO E nw_X9_33 dX9_init_49 (by decide) (by decide) ?_
  refine z_kn 28 501 rfl rfl ?_
  refine z_dup E dX9_init_52 rfl ?_
  obtain ⟨p17, e18, e⟩ := ob e
  refine z_kV2 (st := [.ref h15.1, .ref a0]) (av := [.ref h15.1]) E 34 571 (z_rIN (st := [.ref h15.1, .ref a0]) (av := []) E Y_X0_init k_X9_35 (c_X0_init (z_El E) e18) dX9_init_53 rfl rfl (by decide) (by decide) (by decide) (by decide) (Nat.le_of_ble_eq_true rfl)) rfl rfl rfl ?_
  obtain ⟨h19, e20, e⟩ := ob e
  refine z_putR E fp_X9_36 (Or.inl ⟨_, rfl⟩) (Or.inr rfl) dX9_init_56 e20 ?_
  refine z_aload_n E 0 dX9_init_59 rfl ?_
  refine z_nwO E nw_X9_40 dX9_init_60 (by decide) (by decide) ?_
  refine z_kn 35 591 rfl rfl ?_
  refine z_dup E dX9_init_63 rfl ?_
  obtain ⟨p21, e22, e⟩ := ob e
  refine z_kV2 (st := [.ref h19.1, .ref a0]) (av := [.ref h19.1]) E 41 714 (z_rIN (st := [.ref h19.1, .ref a0]) (av := []) E Y_X8_init k_X9_42 (c_X8_init (z_El E) e22) dX9_init_64 rfl rfl (by decide) (by decide) (by decide) (by decide) (Nat.le_of_ble_eq_true rfl)) rfl rfl rfl ?_
  obtain ⟨h23, e24, e⟩ := ob e
  refine z_putR E fp_X9_43 (Or.inl ⟨_, rfl⟩) (Or.inr rfl) dX9_init_67 e24 ?_
  refine z_aload_n E 0 dX9_init_70 rfl ?_
  refine z_nwO E nw_X9_47 dX9_init_71 (by decide) (by decide) ?_
  refine z_kn 42 734 rfl rfl ?_
  refine z_dup E dX9_init_74 rfl ?_
  refine z_kV2 (st := [.ref h23.1, .ref a0]) (av := [.ref h23.1]) E 42 734 (z_rIN (st := [.ref h23.1, .ref a0]) (av := []) E Y_X2_init k_X9_49 (c_X2_init (l := z_l X) (h := (nwO 5 [.int 0, .int 0, .int 0] h23)) (z_El E) h23.1) dX9_init_75 rfl rfl (by decide) (by decide) (by decide) (by decide) (Nat.le_of_ble_eq_true rfl)) rfl rfl rfl ?_
  obtain ⟨h25, e26, e⟩ := ob e
  refine z_putR E fp_X9_50 (Or.inl ⟨_, rfl⟩) (Or.inr rfl) dX9_init_78 e26 ?_
  refine z_aload_n E 0 dX9_init_81 rfl ?_
  refine z_nwO E nw_X9_54 dX9_init_82 (by decide) (by decide) ?_
  refine z_kn 43 754 rfl rfl ?_
  refine z_dup E dX9_init_85 rfl ?_
  obtain ⟨p27, e28, e⟩ := ob e
  refine z_kV2 (st := [.ref h25.1, .ref a0]) (av := [.ref h25.1]) E 44 818 (z_rI (st := [.ref h25.1, .ref a0]) (av := []) E Y_J4_init_da8c8 k_X9_56 (c_J4_init_da8c8 (z_El E) e28) dX9_init_86 rfl rfl (by decide) (by decide) (by decide) (by decide) (Nat.le_of_ble_eq_true rfl)) rfl rfl rfl ?_
  obtain ⟨h29, e30, e⟩ := ob e
  refine z_putR E fp_X9_57 (Or.inl ⟨_, rfl⟩) (Or.inr rfl) dX9_init_89 e30 ?_
  obtain rfl := Option.some.inj e
  exact z_vret E M dX9_init_92 rfl rfl rfl (by decide) (by decide)
theorem c_X9_init {l : Launch} (hl : l.stackTraces = false) {h : PH} {a0 : Nat} {r : PH} (e : f_X9_init h a0 = some r) : CMet l yX9_init (z_W yX9_init cX9_init 1 none) rmX9_init h [.ref a0] (.inr none) r :=
  z_met hl Y_X9_init (by decide +kernel) (Nat.le_of_ble_eq_true rfl) (fun X hX E T0 M => b_X9_init E T0 e M)
abbrev rmX10_init : Room := { frames := 1, cells := 7, slots := 1333, locals := 22 }
noncomputable def f_X10_init_L68 : Nat → PH → Nat → Int32 → Option PH
  | 0, _, _, _ => none
  | fu + 1, h, v0, v1 =>
    if (12 : Int32) ≤ v1 then
      some h
    else
      (rdR h v0 12 0).bind fun x2 =>
      (asI .int h x2 ((20 : Int32) + v1) (20 : Int32)).bind fun h4 =>
      f_X10_init_L68 fu h4 v0 (v1 + (1 : Int32))
theorem b_X10_init_L68 {X : PX} (E : z_E X cX10_init RX10 "<init>" 2 rmX10_init none) (T0 : z_T0 X) {k n : Nat} (hk : k + 0 ≤ rmX10_init.cells) (hn : n + 0 ≤ rmX10_init.slots) {s : PH} : ∀ (fu : Nat) (h : PH) (v0 : Nat) (v1 : Int32) (e : f_X10_init_L68 fu h v0 v1 = some s) (kk : WP X 2 k n 91 [(0, .ref v0)] [] s), WP X 2 k n 68 [(0, .ref v0), (1, .int v1)] [] h := by
  intro fu
  induction fu with
  | zero => intro h v0 v1 e; exact absurd (show (none : Option PH) = some s from e) (by intro z; cases z)
  | succ fu ih =>
    intro h v0 v1 e kk
    unfold f_X10_init_L68 at e
    refine z_iload_n E 1 dX10_init_68 rfl ?_
    refine z_bipush E dX10_init_69 bp_12 ?_
    rcases oi e with ⟨c1, e⟩ | ⟨c1, e⟩
    · refine z_icmp_geT (tgt := 91) E dX10_init_71 rfl c1 ?_
      obtain rfl := Option.some.inj e
      exact z_sub [0] rfl kk
    · refine z_icmp_geF (tgt := 91) E dX10_init_71 rfl c1 ?_
      refine z_aload_n E 0 dX10_init_74 rfl ?_
      obtain ⟨x2, e3, e⟩ := ob e
      refine z_getR E fl_X10_7 dX10_init_75 e3 ?_
      refine z_bipush E dX10_init_78 bp_20 ?_
      refine z_iload_n E 1 dX10_init_80 rfl ?_
      refine z_iadd E dX10_init_81 ?_
      refine z_bipush E dX10_init_82 bp_20 ?_
      obtain ⟨h4, e5, e⟩ := ob e
      refine z_iast E dX10_init_84 e5 ?_
      refine z_iinc (v := (v1 + (1 : Int32))) (lv2 := [(1, .int (v1 + (1 : Int32))), (0, .ref v0)]) E 1 dX10_init_85 rfl (congrArg (v1 + ·) ic_1) (by decide) rfl ?_
      refine z_goto (tgt := 68) E dX10_init_88 rfl ?_
      exact z_sub [1, 0] rfl (ih _ _ _ e kk)
noncomputable def f_X10_init (h : PH) (a0 : Nat) : Option PH :=
  (nwI .int 99 h (99 : Int32)).bind fun h1 =>
  (wr h1 a0 12 0 (.ref h.1)).bind fun h3 =>
  (nwI .int 792 h3 (792 : Int32)).bind fun h5 =>
  (wr h5 a0 12 1 (.ref h3.1)).bind fun h7 =>
  (nwI .int 99 h7 (99 : Int32)).bind fun h9 =>
  (wr h9 a0 12 2 (.ref h7.1)).bind fun h11 =>
  (nwI .int 99 h11 (99 : Int32)).bind fun h13 =>
  (wr h13 a0 12 3 (.ref h11.1)).bind fun h15 =>
  (nwI .int 60 h15 (60 : Int32)).bind fun h17 =>
  (wr h17 a0 12 12 (.ref h15.1)).bind fun h19 =>
  (wr h19 a0 12 14 (.int (-1 : Int32))).bind fun h21 =>
  (nwI .char 60 h21 (60 : Int32)).bind fun h23 =>
  (wr h23 a0 12 15 (.ref h21.1)).bind fun h25 =>
  (nwI .int 124 h25 (124 : Int32)).bind fun h27 =>
  (wr h27 a0 12 18 (.ref h25.1)).bind fun h29 =>
  (f_X10_init_L68 FV h29 a0 (0 : Int32)).bind fun s31 =>
  (rdR s31 a0 12 0).bind fun x33 =>
  (asI .int s31 x33 (4 : Int32) (100 : Int32)).bind fun h35 =>
  some h35
theorem b_X10_init {X : PX} (E : z_E X cX10_init RX10 "<init>" 2 rmX10_init none) (T0 : z_T0 X) {h : PH} {a0 : Nat} {r : PH} (e : f_X10_init h a0 = some r) (M : z_M X rmX10_init.cells rmX10_init.slots (.inr none) r) : WP X 2 0 0 0 [(0, .ref a0)] [] h := by
  unfold f_X10_init at e
  refine z_aload_n E 0 dX10_init_0 rfl ?_
  refine z_objInit E oi_X10_1 dX10_init_1 (by decide) (Nat.le_of_ble_eq_true rfl) ?_
  refine z_aload_n E 0 dX10_init_4 rfl ?_
  refine z_bipush E dX10_init_5 bp_99 ?_
  obtain ⟨h1, e2, e⟩ := ob e
  refine z_nwI E 99 (by decide) ac_int dX10_init_7 e2 (by decide) (by decide) ?_
  refine z_kn 1 99 rfl rfl ?_
  obtain ⟨h3, e4, e⟩ := ob e
  refine z_putR E fp_X10_7 (Or.inr ⟨_, rfl⟩) (Or.inr rfl) dX10_init_9 e4 ?_
  refine z_aload_n E 0 dX10_init_12 rfl ?_
  refine z_sipush E dX10_init_13 sp_792 ?_
  obtain ⟨h5, e6, e⟩ := ob e
  refine z_nwI E 792 (by decide) ac_int dX10_init_16 e6 (by decide) (by decide) ?_
  refine z_kn 2 891 rfl rfl ?_
  obtain ⟨h7, e8, e⟩ := ob e
  refine z_putR E fp_X10_13 (Or.inr ⟨_, rfl⟩) (Or.inr rfl) dX10_init_18 e8 ?_
  refine z_aload_n E 0 dX10_init_21 rfl ?_
  refine z_bipush E dX10_init_22 bp_99 ?_
  obtain ⟨h9, e10, e⟩ := ob e
  refine z_nwI E 99 (by decide) ac_int dX10_init_24 e10 (by decide) (by decide) ?_
  refine z_kn 3 990 rfl rfl ?_
  obtain ⟨h11, e12, e⟩ := ob e
  refine z_putR E fp_X10_16 (Or.inr ⟨_, rfl⟩) (Or.inr rfl) dX10_init_26 e12 ?_
  refine z_aload_n E 0 dX10_init_29 rfl ?_
  refine z_bipush E dX10_init_30 bp_99 ?_
  obtain ⟨h13, e14, e⟩ := ob e
  refine z_nwI E 99 (by decide) ac_int dX10_init_32 e14 (by decide) (by decide) ?_
  refine z_kn 4 1089 rfl rfl ?_
  obtain ⟨h15, e16, e⟩ := ob e
  refine z_putR E fp_X10_19 (Or.inr ⟨_, rfl⟩) (Or.inr rfl) dX10_init_34 e16 ?_
  refine z_aload_n E 0 dX10_init_37 rfl ?_
  refine z_bipush E dX10_init_38 bp_60 ?_
  obtain ⟨h17, e18, e⟩ := ob e
  refine z_nwI E 60 (by decide) ac_int dX10_init_40 e18 (by decide) (by decide) ?_
  refine z_kn 5 1149 rfl rfl ?_
  obtain ⟨h19, e20, e⟩ := ob e
  refine z_putR E fp_X10_22 (Or.inr ⟨_, rfl⟩) (Or.inr rfl) dX10_init_42 e20 ?_
  refine z_aload_n E 0 dX10_init_45 rfl ?_
  refine z_iconst E dX10_init_46 ic_m1 ?_
  obtain ⟨h21, e22, e⟩ := ob e
  refine z_putI E fp_X10_25 (Or.inl rfl) dX10_init_47 e22 ?_
  refine z_aload_n E 0 dX10_init_50 rfl ?_
  refine z_bipush E dX10_init_51 bp_60 ?_
  obtain ⟨h23, e24, e⟩ := ob e
  refine z_nwC E 60 (by decide) ac_char dX10_init_53 e24 (by decide) (by decide) ?_
  refine z_kn 6 1209 rfl rfl ?_
  obtain ⟨h25, e26, e⟩ := ob e
  refine z_putR E fp_X10_29 (Or.inr ⟨_, rfl⟩) (Or.inr rfl) dX10_init_55 e26 ?_
  refine z_aload_n E 0 dX10_init_58 rfl ?_
  refine z_bipush E dX10_init_59 bp_124 ?_
  obtain ⟨h27, e28, e⟩ := ob e
  refine z_nwI E 124 (by decide) ac_int dX10_init_61 e28 (by decide) (by decide) ?_
  refine z_kn 7 1333 rfl rfl ?_
  obtain ⟨h29, e30, e⟩ := ob e
  refine z_putR E fp_X10_33 (Or.inr ⟨_, rfl⟩) (Or.inr rfl) dX10_init_63 e30 ?_
  refine z_iconst E dX10_init_66 ic_0 ?_
  refine z_istore_n (lv2 := [(1, .int (0 : Int32)), (0, .ref a0)]) E dX10_init_67 (by decide) rfl ?_
  obtain ⟨s31, e32, e⟩ := ob e
  refine z_sub [1, 0] rfl (b_X10_init_L68 E T0 (by decide) (by decide) FV _ _ _ e32 ?_)
  refine z_aload_n E 0 dX10_init_91 rfl ?_
  obtain ⟨x33, e34, e⟩ := ob e
  refine z_getR E fl_X10_7 dX10_init_92 e34 ?_
  refine z_iconst E dX10_init_95 ic_4 ?_
  refine z_bipush E dX10_init_96 bp_100 ?_
  obtain ⟨h35, e36, e⟩ := ob e
  refine z_iast E dX10_init_98 e36 ?_
  obtain rfl := Option.some.inj e
  exact z_vret E M dX10_init_99 rfl rfl rfl (by decide) (by decide)
theorem c_X10_init {l : Launch} (hl : l.stackTraces = false) {h : PH} {a0 : Nat} {r : PH} (e : f_X10_init h a0 = some r) : CMet l yX10_init (z_W yX10_init cX10_init 2 none) rmX10_init h [.ref a0] (.inr none) r :=
  z_met hl Y_X10_init (by decide +kernel) (Nat.le_of_ble_eq_true rfl) (fun X hX E T0 M => b_X10_init E T0 e M)
abbrev rmX9_isBetween : Room := { frames := 0, cells := 0, slots := 0, locals := 0 }
noncomputable def f_X9_isBetween (a0 : Int32) (a1 : Int32) (a2 : Int32) : Bool :=
  if a0 < a1 then
    false
  else
    if a2 < a0 then
      false
    else
      true
theorem b_X9_isBetween {X : PX} (E : z_E X cX9_isBetween RX9 "isBetween" 3 rmX9_isBetween (some .boolean)) (T0 : z_T0 X) {h : PH} {a0 : Int32} {a1 : Int32} {a2 : Int32} {r : Bool} (e : f_X9_isBetween a0 a1 a2 = r) (M : z_M X rmX9_isBetween.cells rmX9_isBetween.slots (.inr (some (.int (zb r)))) h) : WP X 3 0 0 0 [(0, .int a0), (1, .int a1), (2, .int a2)] [] h := by
  unfold f_X9_isBetween at e
  refine z_iload_n E 0 dX9_isBetween_0 rfl ?_
  refine z_iload_n E 1 dX9_isBetween_1 rfl ?_
  rcases oi e with ⟨c1, e⟩ | ⟨c1, e⟩
  · refine z_icmp_ltT (tgt := 14) E dX9_isBetween_2 rfl c1 ?_
    refine z_iconst E dX9_isBetween_14 ic_0 ?_
    subst e
    exact z_iret E M dX9_isBetween_15 rfl rfl rfl rfl (by decide) (by decide)
  · refine z_icmp_ltF (tgt := 14) E dX9_isBetween_2 rfl c1 ?_
    refine z_iload_n E 0 dX9_isBetween_5 rfl ?_
    refine z_iload_n E 2 dX9_isBetween_6 rfl ?_
    rcases oi e with ⟨c2, e⟩ | ⟨c2, e⟩
    · refine z_icmp_gtT (tgt := 14) E dX9_isBetween_7 rfl c2 ?_
      refine z_iconst E dX9_isBetween_14 ic_0 ?_
      subst e
      exact z_iret E M dX9_isBetween_15 rfl rfl rfl rfl (by decide) (by decide)
    · refine z_icmp_gtF (tgt := 14) E dX9_isBetween_7 rfl c2 ?_
      refine z_iconst E dX9_isBetween_10 ic_1 ?_
      refine z_goto (tgt := 15) E dX9_isBetween_11 rfl ?_
      subst e
      exact z_iret E M dX9_isBetween_15 rfl rfl rfl rfl (by decide) (by decide)
theorem c_X9_isBetween {l : Launch} (hl : l.stackTraces = false) {h : PH} (a0 : Int32) (a1 : Int32) (a2 : Int32) : CMet l yX9_isBetween (z_W yX9_isBetween cX9_isBetween 3 (some .boolean)) rmX9_isBetween h [.int a0, .int a1, .int a2] (.inr (some (.int (zb (f_X9_isBetween a0 a1 a2))))) h :=
  z_met hl Y_X9_isBetween (by decide +kernel) (Nat.le_of_ble_eq_true rfl) (fun X hX E T0 M => b_X9_isBetween E T0 rfl M)
abbrev rmX9_isPage : Room := { frames := 1, cells := 0, slots := 0, locals := 22 }
noncomputable def f_X9_isPage (a0 : Int32) : Bool :=
  (f_X9_isBetween a0 (0 : Int32) (11 : Int32))
theorem b_X9_isPage {X : PX} (E : z_E X cX9_isPage RX9 "isPage" 1 rmX9_isPage (some .boolean)) (T0 : z_T0 X) {h : PH} {a0 : Int32} {r : Bool} (e : f_X9_isPage a0 = r) (M : z_M X rmX9_isPage.cells rmX9_isPage.slots (.inr (some (.int (zb r)))) h) : WP X 1 0 0 0 [(0, .int a0)] [] h := by
  unfold f_X9_isPage at e
  refine z_iload_n E 0 dX9_isPage_0 rfl ?_
  refine z_iconst E dX9_isPage_1 ic_0 ?_
  refine z_bipush E dX9_isPage_2 bp_11 ?_
  refine z_kR2 (st := []) (av := [.int a0, .int (0 : Int32), .int (11 : Int32)]) E 0 0 (z_rS (st := []) (av := [.int a0, .int (0 : Int32), .int (11 : Int32)]) E Y_X9_isBetween k_X9_362 (c_X9_isBetween (l := z_l X) (h := h) (z_El E) a0 (0 : Int32) (11 : Int32)) dX9_isPage_4 rfl rfl (by decide) (by decide) (by decide) (by decide) (Nat.zero_le _)) rfl rfl rfl ?_
  subst e
  exact z_iret E M dX9_isPage_7 rfl (zb_nar _) rfl rfl (by decide) (by decide)
theorem c_X9_isPage {l : Launch} (hl : l.stackTraces = false) {h : PH} (a0 : Int32) : CMet l yX9_isPage (z_W yX9_isPage cX9_isPage 1 (some .boolean)) rmX9_isPage h [.int a0] (.inr (some (.int (zb (f_X9_isPage a0))))) h :=
  z_met hl Y_X9_isPage (by decide +kernel) (Nat.le_of_ble_eq_true rfl) (fun X hX E T0 M => b_X9_isPage E T0 rfl M)
abbrev rmX5_judgeNote : Room := { frames := 2, cells := 0, slots := 0, locals := 42 }
noncomputable def f_X5_judgeNote (h : PH) (a0 : Nat) (a1 : Int32) (a2 : Int32) : Option Int32 :=
  if (f_X9_isPage a1) = false then
    some (-1 : Int32)
  else
    if (f_X9_isBetween a2 (1 : Int32) (30 : Int32)) = true then
      (rdI h a0 9 0).bind fun x3 =>
      if x3 < (10 : Int32) then
        some (0 : Int32)
      else
        some (1 : Int32)
    else
      some (-1 : Int32)
theorem b_X5_judgeNote {X : PX} (E : z_E X cX5_judgeNote RX5 "judgeNote" 3 rmX5_judgeNote (some .int)) (T0 : z_T0 X) {h : PH} {a0 : Nat} {a1 : Int32} {a2 : Int32} {r : Int32} (e : f_X5_judgeNote h a0 a1 a2 = some r) (M : z_M X rmX5_judgeNote.cells rmX5_judgeNote.slots (.inr (some (.int r))) h) : WP X 3 0 0 0 [(0, .ref a0), (1, .int a1), (2, .int a2)] [] h := by
  unfold f_X5_judgeNote at e
  refine z_iload_n E 1 dX5_judgeNote_0 rfl ?_
  refine z_kR2 (st := []) (av := [.int a1]) E 0 0 (z_rSN (st := []) (av := [.int a1]) E Y_X9_isPage k_X5_19 (c_X9_isPage (l := z_l X) (h := h) (z_El E) a1) dX5_judgeNote_1 rfl rfl (by decide) (by decide) (by decide) (by decide) (Nat.zero_le _)) rfl rfl rfl ?_
  rcases oi e with ⟨c1, e⟩ | ⟨c1, e⟩
  · refine z_if_eqT (tgt := 17) E dX5_judgeNote_4 rfl (zb_f c1) ?_
    refine z_iconst E dX5_judgeNote_17 ic_m1 ?_
    obtain rfl := Option.some.inj e
    exact z_iret E M dX5_judgeNote_18 rfl rfl rfl rfl (by decide) (by decide)
  · refine z_if_eqF (tgt := 17) E dX5_judgeNote_4 rfl (zb_nf c1) ?_
    refine z_iload_n E 2 dX5_judgeNote_7 rfl ?_
    refine z_iconst E dX5_judgeNote_8 ic_1 ?_
    refine z_bipush E dX5_judgeNote_9 bp_30 ?_
    refine z_kR2 (st := []) (av := [.int a2, .int (1 : Int32), .int (30 : Int32)]) E 0 0 (z_rSN (st := []) (av := [.int a2, .int (1 : Int32), .int (30 : Int32)]) E Y_X9_isBetween k_X5_23 (c_X9_isBetween (l := z_l X) (h := h) (z_El E) a2 (1 : Int32) (30 : Int32)) dX5_judgeNote_11 rfl rfl (by decide) (by decide) (by decide) (by decide) (Nat.zero_le _)) rfl rfl rfl ?_
    rcases oi e with ⟨c2, e⟩ | ⟨c2, e⟩
    · refine z_if_neT (tgt := 19) E dX5_judgeNote_14 rfl (zb_t c2) ?_
      refine z_aload_n E 0 dX5_judgeNote_19 rfl ?_
      obtain ⟨x3, e4, e⟩ := ob e
      refine z_getI E fl_X5_51 dX5_judgeNote_20 e4 ?_
      refine z_bipush E dX5_judgeNote_23 bp_10 ?_
      rcases oi e with ⟨c5, e⟩ | ⟨c5, e⟩
      · refine z_icmp_ltT (tgt := 32) E dX5_judgeNote_25 rfl c5 ?_
        refine z_iconst E dX5_judgeNote_32 ic_0 ?_
        obtain rfl := Option.some.inj e
        exact z_iret E M dX5_judgeNote_33 rfl rfl rfl rfl (by decide) (by decide)
      · refine z_icmp_ltF (tgt := 32) E dX5_judgeNote_25 rfl c5 ?_
        refine z_iconst E dX5_judgeNote_28 ic_1 ?_
        refine z_goto (tgt := 33) E dX5_judgeNote_29 rfl ?_
        obtain rfl := Option.some.inj e
        exact z_iret E M dX5_judgeNote_33 rfl rfl rfl rfl (by decide) (by decide)
    · refine z_if_neF (tgt := 19) E dX5_judgeNote_14 rfl (zb_nt c2) ?_
      refine z_iconst E dX5_judgeNote_17 ic_m1 ?_
      obtain rfl := Option.some.inj e
      exact z_iret E M dX5_judgeNote_18 rfl rfl rfl rfl (by decide) (by decide)
theorem c_X5_judgeNote {l : Launch} (hl : l.stackTraces = false) {h : PH} {a0 : Nat} {a1 : Int32} {a2 : Int32} {r : Int32} (e : f_X5_judgeNote h a0 a1 a2 = some r) : CMet l yX5_judgeNote (z_W yX5_judgeNote cX5_judgeNote 3 (some .int)) rmX5_judgeNote h [.ref a0, .int a1, .int a2] (.inr (some (.int r))) h :=
  z_met hl Y_X5_judgeNote (by decide +kernel) (Nat.le_of_ble_eq_true rfl) (fun X hX E T0 M => b_X5_judgeNote E T0 e M)
abbrev rmX7_hasNote : Room := { frames := 0, cells := 0, slots := 0, locals := 0 }
noncomputable def f_X7_hasNote (h : PH) (a0 : Nat) (a1 : Int32) : Option Bool :=
  if a1 < 0 then
    some false
  else
    (rdI h a0 9 0).bind fun x2 =>
    if x2 ≤ a1 then
      some false
    else
      some true
theorem b_X7_hasNote {X : PX} (E : z_E X cX7_hasNote RX7 "hasNote" 2 rmX7_hasNote (some .boolean)) (T0 : z_T0 X) {h : PH} {a0 : Nat} {a1 : Int32} {r : Bool} (e : f_X7_hasNote h a0 a1 = some r) (M : z_M X rmX7_hasNote.cells rmX7_hasNote.slots (.inr (some (.int (zb r)))) h) : WP X 2 0 0 0 [(0, .ref a0), (1, .int a1)] [] h := by
  unfold f_X7_hasNote at e
  refine z_iload_n E 1 dX7_hasNote_0 rfl ?_
  rcases oi e with ⟨c1, e⟩ | ⟨c1, e⟩
  · refine z_if_ltT (tgt := 16) E dX7_hasNote_1 rfl c1 ?_
    refine z_iconst E dX7_hasNote_16 ic_0 ?_
    obtain rfl := Option.some.inj e
    exact z_iret E M dX7_hasNote_17 rfl rfl rfl rfl (by decide) (by decide)
  · refine z_if_ltF (tgt := 16) E dX7_hasNote_1 rfl c1 ?_
    refine z_iload_n E 1 dX7_hasNote_4 rfl ?_
    refine z_aload_n E 0 dX7_hasNote_5 rfl ?_
    obtain ⟨x2, e3, e⟩ := ob e
    refine z_getI E fl_X7_53 dX7_hasNote_6 e3 ?_
    rcases oi e with ⟨c4, e⟩ | ⟨c4, e⟩
    · refine z_icmp_geT (tgt := 16) E dX7_hasNote_9 rfl c4 ?_
      refine z_iconst E dX7_hasNote_16 ic_0 ?_
      obtain rfl := Option.some.inj e
      exact z_iret E M dX7_hasNote_17 rfl rfl rfl rfl (by decide) (by decide)
    · refine z_icmp_geF (tgt := 16) E dX7_hasNote_9 rfl c4 ?_
      refine z_iconst E dX7_hasNote_12 ic_1 ?_
      refine z_goto (tgt := 17) E dX7_hasNote_13 rfl ?_
      obtain rfl := Option.some.inj e
      exact z_iret E M dX7_hasNote_17 rfl rfl rfl rfl (by decide) (by decide)
theorem c_X7_hasNote {l : Launch} (hl : l.stackTraces = false) {h : PH} {a0 : Nat} {a1 : Int32} {r : Bool} (e : f_X7_hasNote h a0 a1 = some r) : CMet l yX7_hasNote (z_W yX7_hasNote cX7_hasNote 2 (some .boolean)) rmX7_hasNote h [.ref a0, .int a1] (.inr (some (.int (zb r)))) h :=
  z_met hl Y_X7_hasNote (by decide +kernel) (Nat.le_of_ble_eq_true rfl) (fun X hX E T0 M => b_X7_hasNote E T0 e M)
abbrev rmX9_has : Room := { frames := 0, cells := 0, slots := 0, locals := 0 }
noncomputable def f_X9_has (a0 : Int32) (a1 : Int32) : Bool :=
  if ((zshr a0 a1) &&& (1 : Int32)) = 0 then
    false
  else
    true
theorem b_X9_has {X : PX} (E : z_E X cX9_has RX9 "has" 2 rmX9_has (some .boolean)) (T0 : z_T0 X) {h : PH} {a0 : Int32} {a1 : Int32} {r : Bool} (e : f_X9_has a0 a1 = r) (M : z_M X rmX9_has.cells rmX9_has.slots (.inr (some (.int (zb r)))) h) : WP X 2 0 0 0 [(0, .int a0), (1, .int a1)] [] h := by
  unfold f_X9_has at e
  refine z_iload_n E 0 dX9_has_0 rfl ?_
  refine z_iload_n E 1 dX9_has_1 rfl ?_
  refine z_ishr E dX9_has_2 ?_
  refine z_iconst E dX9_has_3 ic_1 ?_
  refine z_iand E dX9_has_4 ?_
  rcases oi e with ⟨c1, e⟩ | ⟨c1, e⟩
  · refine z_if_eqT (tgt := 12) E dX9_has_5 rfl c1 ?_
    refine z_iconst E dX9_has_12 ic_0 ?_
    subst e
    exact z_iret E M dX9_has_13 rfl rfl rfl rfl (by decide) (by decide)
  · refine z_if_eqF (tgt := 12) E dX9_has_5 rfl c1 ?_
    refine z_iconst E dX9_has_8 ic_1 ?_
    refine z_goto (tgt := 13) E dX9_has_9 rfl ?_
    subst e
    exact z_iret E M dX9_has_13 rfl rfl rfl rfl (by decide) (by decide)
theorem c_X9_has {l : Launch} (hl : l.stackTraces = false) {h : PH} (a0 : Int32) (a1 : Int32) : CMet l yX9_has (z_W yX9_has cX9_has 2 (some .boolean)) rmX9_has h [.int a0, .int a1] (.inr (some (.int (zb (f_X9_has a0 a1))))) h :=
  z_met hl Y_X9_has (by decide +kernel) (Nat.le_of_ble_eq_true rfl) (fun X hX E T0 M => b_X9_has E T0 rfl M)
abbrev rmX5_judgeCitation : Room := { frames := 1, cells := 0, slots := 0, locals := 21 }
noncomputable def f_X5_judgeCitation (h : PH) (a0 : Nat) (a1 : Int32) (a2 : Int32) (a3 : Int32) : Option Int32 :=
  (gd h a0 9).bind fun _ =>
  (f_X7_hasNote h a0 a1).bind fun p2 =>
  if p2 = false then
    some (-2 : Int32)
  else
    (gd h a0 9).bind fun _ =>
    (f_X7_hasNote h a0 a2).bind fun p6 =>
    if p6 = true then
      if ¬ a1 = a2 then
        (rdR h a0 9 4).bind fun x10 =>
        (alI .int h x10 a1).bind fun x12 =>
        if ¬ (zb (f_X9_has x12 a2)) = a3 then
          some (5 : Int32)
        else
          some (0 : Int32)
      else
        some (-1 : Int32)
    else
      some (-2 : Int32)
theorem b_X5_judgeCitation {X : PX} (E : z_E X cX5_judgeCitation RX5 "judgeCitation" 4 rmX5_judgeCitation (some .int)) (T0 : z_T0 X) {h : PH} {a0 : Nat} {a1 : Int32} {a2 : Int32} {a3 : Int32} {r : Int32} (e : f_X5_judgeCitation h a0 a1 a2 a3 = some r) (M : z_M X rmX5_judgeCitation.cells rmX5_judgeCitation.slots (.inr (some (.int r))) h) : WP X 4 0 0 0 [(0, .ref a0), (1, .int a1), (2, .int a2), (3, .int a3)] [] h := by
  unfold f_X5_judgeCitation at e
  refine z_aload_n E 0 dX5_judgeCitation_0 rfl ?_
  refine z_iload_n E 1 dX5_judgeCitation_1 rfl ?_
  obtain ⟨_, e1, e⟩ := ob e
  obtain ⟨p2, e3, e⟩ := ob e
  refine z_kR2 (st := []) (av := [.ref a0, .int a1]) E 0 0 (z_rV (st := []) (av := [.int a1]) E Y_X7_hasNote k_X5_55 (ci := 9) rfl (c_X7_hasNote (z_El E) e3) dX5_judgeCitation_2 e1 rfl rfl (by decide) (by decide) (by decide) (by decide) (Nat.zero_le _)) rfl rfl rfl ?_
  rcases oi e with ⟨c4, e⟩ | ⟨c4, e⟩
  · refine z_if_eqT (tgt := 16) E dX5_judgeCitation_5 rfl (zb_f c4) ?_
    refine z_bipush E dX5_judgeCitation_16 bp_m2 ?_
    obtain rfl := Option.some.inj e
    exact z_iret E M dX5_judgeCitation_18 rfl rfl rfl rfl (by decide) (by decide)
  · refine z_if_eqF (tgt := 16) E dX5_judgeCitation_5 rfl (zb_nf c4) ?_
    refine z_aload_n E 0 dX5_judgeCitation_8 rfl ?_
    refine z_iload_n E 2 dX5_judgeCitation_9 rfl ?_
    obtain ⟨_, e5, e⟩ := ob e
    obtain ⟨p6, e7, e⟩ := ob e
    refine z_kR2 (st := []) (av := [.ref a0, .int a2]) E 0 0 (z_rV (st := []) (av := [.int a2]) E Y_X7_hasNote k_X5_55 (ci := 9) rfl (c_X7_hasNote (z_El E) e7) dX5_judgeCitation_10 e5 rfl rfl (by decide) (by decide) (by decide) (by decide) (Nat.zero_le _)) rfl rfl rfl ?_
    rcases oi e with ⟨c8, e⟩ | ⟨c8, e⟩
    · refine z_if_neT (tgt := 19) E dX5_judgeCitation_13 rfl (zb_t c8) ?_
      refine z_iload_n E 1 dX5_judgeCitation_19 rfl ?_
      refine z_iload_n E 2 dX5_judgeCitation_20 rfl ?_
      rcases oi e with ⟨c9, e⟩ | ⟨c9, e⟩
      · refine z_icmp_neT (tgt := 26) E dX5_judgeCitation_21 rfl c9 ?_
        refine z_aload_n E 0 dX5_judgeCitation_26 rfl ?_
        obtain ⟨x10, e11, e⟩ := ob e
        refine z_getR E fl_X5_58 dX5_judgeCitation_27 e11 ?_
        refine z_iload_n E 1 dX5_judgeCitation_30 rfl ?_
        obtain ⟨x12, e13, e⟩ := ob e
        refine z_iald E dX5_judgeCitation_31 e13 ?_
        refine z_iload_n E 2 dX5_judgeCitation_32 rfl ?_
        refine z_kR2 (st := []) (av := [.int x12, .int a2]) E 0 0 (z_rSN (st := []) (av := [.int x12, .int a2]) E Y_X9_has k_X5_62 (c_X9_has (l := z_l X) (h := h) (z_El E) x12 a2) dX5_judgeCitation_33 rfl rfl (by decide) (by decide) (by decide) (by decide) (Nat.zero_le _)) rfl rfl rfl ?_
        refine z_iload_n E 3 dX5_judgeCitation_36 rfl ?_
        rcases oi e with ⟨c14, e⟩ | ⟨c14, e⟩
        · refine z_icmp_neT (tgt := 44) E dX5_judgeCitation_37 rfl c14 ?_
          refine z_iconst E dX5_judgeCitation_44 ic_5 ?_
          obtain rfl := Option.some.inj e
          exact z_iret E M dX5_judgeCitation_45 rfl rfl rfl rfl (by decide) (by decide)
        · refine z_icmp_neF (tgt := 44) E dX5_judgeCitation_37 rfl (Classical.not_not.mp c14) ?_
          refine z_iconst E dX5_judgeCitation_40 ic_0 ?_
          refine z_goto (tgt := 45) E dX5_judgeCitation_41 rfl ?_
          obtain rfl := Option.some.inj e
          exact z_iret E M dX5_judgeCitation_45 rfl rfl rfl rfl (by decide) (by decide)
      · refine z_icmp_neF (tgt := 26) E dX5_judgeCitation_21 rfl (Classical.not_not.mp c9) ?_
        refine z_iconst E dX5_judgeCitation_24 ic_m1 ?_
        obtain rfl := Option.some.inj e
        exact z_iret E M dX5_judgeCitation_25 rfl rfl rfl rfl (by decide) (by decide)
    · refine z_if_neF (tgt := 19) E dX5_judgeCitation_13 rfl (zb_nt c8) ?_
      refine z_bipush E dX5_judgeCitation_16 bp_m2 ?_
      obtain rfl := Option.some.inj e
      exact z_iret E M dX5_judgeCitation_18 rfl rfl rfl rfl (by decide) (by decide)
theorem c_X5_judgeCitation {l : Launch} (hl : l.stackTraces = false) {h : PH} {a0 : Nat} {a1 : Int32} {a2 : Int32} {a3 : Int32} {r : Int32} (e : f_X5_judgeCitation h a0 a1 a2 a3 = some r) : CMet l yX5_judgeCitation (z_W yX5_judgeCitation cX5_judgeCitation 4 (some .int)) rmX5_judgeCitation h [.ref a0, .int a1, .int a2, .int a3] (.inr (some (.int r))) h :=
  z_met hl Y_X5_judgeCitation (by decide +kernel) (Nat.le_of_ble_eq_true rfl) (fun X hX E T0 M => b_X5_judgeCitation E T0 e M)
abbrev rmX5_judgeNet : Room := { frames := 2, cells := 0, slots := 0, locals := 42 }
noncomputable def f_X5_judgeNet (h : PH) (a0 : Nat) (a1 : Int32) (a2 : Int32) (a3 : Int32) : Option Int32 :=
  if (f_X9_isPage a1) = false then
    some (-1 : Int32)
  else
    if (f_X9_isBetween a2 (1 : Int32) (12 : Int32)) = false then
      some (-1 : Int32)
    else
      if (f_X9_isBetween a3 (1 : Int32) (30 : Int32)) = true then
        (rdI h a0 9 8).bind fun x4 =>
        if x4 < (5 : Int32) then
          some (0 : Int32)
        else
          some (1 : Int32)
      else
        some (-1 : Int32)
theorem b_X5_judgeNet {X : PX} (E : z_E X cX5_judgeNet RX5 "judgeNet" 4 rmX5_judgeNet (some .int)) (T0 : z_T0 X) {h : PH} {a0 : Nat} {a1 : Int32} {a2 : Int32} {a3 : Int32} {r : Int32} (e : f_X5_judgeNet h a0 a1 a2 a3 = some r) (M : z_M X rmX5_judgeNet.cells rmX5_judgeNet.slots (.inr (some (.int r))) h) : WP X 4 0 0 0 [(0, .ref a0), (1, .int a1), (2, .int a2), (3, .int a3)] [] h := by
  unfold f_X5_judgeNet at e
  refine z_iload_n E 1 dX5_judgeNet_0 rfl ?_
  refine z_kR2 (st := []) (av := [.int a1]) E 0 0 (z_rSN (st := []) (av := [.int a1]) E Y_X9_isPage k_X5_19 (c_X9_isPage (l := z_l X) (h := h) (z_El E) a1) dX5_judgeNet_1 rfl rfl (by decide) (by decide) (by decide) (by decide) (Nat.zero_le _)) rfl rfl rfl ?_
  rcases oi e with ⟨c1, e⟩ | ⟨c1, e⟩
  · refine z_if_eqT (tgt := 27) E dX5_judgeNet_4 rfl (zb_f c1) ?_
    refine z_iconst E dX5_judgeNet_27 ic_m1 ?_
    obtain rfl := Option.some.inj e
    exact z_iret E M dX5_judgeNet_28 rfl rfl rfl rfl (by decide) (by decide)
  · refine z_if_eqF (tgt := 27) E dX5_judgeNet_4 rfl (zb_nf c1) ?_
    refine z_iload_n E 2 dX5_judgeNet_7 rfl ?_
    refine z_iconst E dX5_judgeNet_8 ic_1 ?_
    refine z_bipush E dX5_judgeNet_9 bp_12 ?_
    refine z_kR2 (st := []) (av := [.int a2, .int (1 : Int32), .int (12 : Int32)]) E 0 0 (z_rSN (st := []) (av := [.int a2, .int (1 : Int32), .int (12 : Int32)]) E Y_X9_isBetween k_X5_23 (c_X9_isBetween (l := z_l X) (h := h) (z_El E) a2 (1 : Int32) (12 : Int32)) dX5_judgeNet_11 rfl rfl (by decide) (by decide) (by decide) (by decide) (Nat.zero_le _)) rfl rfl rfl ?_
    rcases oi e with ⟨c2, e⟩ | ⟨c2, e⟩
    · refine z_if_eqT (tgt := 27) E dX5_judgeNet_14 rfl (zb_f c2) ?_
      refine z_iconst E dX5_judgeNet_27 ic_m1 ?_
      obtain rfl := Option.some.inj e
      exact z_iret E M dX5_judgeNet_28 rfl rfl rfl rfl (by decide) (by decide)
    · refine z_if_eqF (tgt := 27) E dX5_judgeNet_14 rfl (zb_nf c2) ?_
      refine z_iload_n E 3 dX5_judgeNet_17 rfl ?_
      refine z_iconst E dX5_judgeNet_18 ic_1 ?_
      refine z_bipush E dX5_judgeNet_19 bp_30 ?_
      refine z_kR2 (st := []) (av := [.int a3, .int (1 : Int32), .int (30 : Int32)]) E 0 0 (z_rSN (st := []) (av := [.int a3, .int (1 : Int32), .int (30 : Int32)]) E Y_X9_isBetween k_X5_23 (c_X9_isBetween (l := z_l X) (h := h) (z_El E) a3 (1 : Int32) (30 : Int32)) dX5_judgeNet_21 rfl rfl (by decide) (by decide) (by decide) (by decide) (Nat.zero_le _)) rfl rfl rfl ?_
      rcases oi e with ⟨c3, e⟩ | ⟨c3, e⟩
      · refine z_if_neT (tgt := 29) E dX5_judgeNet_24 rfl (zb_t c3) ?_
        refine z_aload_n E 0 dX5_judgeNet_29 rfl ?_
        obtain ⟨x4, e5, e⟩ := ob e
        refine z_getI E fl_X5_66 dX5_judgeNet_30 e5 ?_
        refine z_iconst E dX5_judgeNet_33 ic_5 ?_
        rcases oi e with ⟨c6, e⟩ | ⟨c6, e⟩
        · refine z_icmp_ltT (tgt := 41) E dX5_judgeNet_34 rfl c6 ?_
          refine z_iconst E dX5_judgeNet_41 ic_0 ?_
          obtain rfl := Option.some.inj e
          exact z_iret E M dX5_judgeNet_42 rfl rfl rfl rfl (by decide) (by decide)
        · refine z_icmp_ltF (tgt := 41) E dX5_judgeNet_34 rfl c6 ?_
          refine z_iconst E dX5_judgeNet_37 ic_1 ?_
          refine z_goto (tgt := 42) E dX5_judgeNet_38 rfl ?_
          obtain rfl := Option.some.inj e
          exact z_iret E M dX5_judgeNet_42 rfl rfl rfl rfl (by decide) (by decide)
      · refine z_if_neF (tgt := 29) E dX5_judgeNet_24 rfl (zb_nt c3) ?_
        refine z_iconst E dX5_judgeNet_27 ic_m1 ?_
        obtain rfl := Option.some.inj e
        exact z_iret E M dX5_judgeNet_28 rfl rfl rfl rfl (by decide) (by decide)
theorem c_X5_judgeNet {l : Launch} (hl : l.stackTraces = false) {h : PH} {a0 : Nat} {a1 : Int32} {a2 : Int32} {a3 : Int32} {r : Int32} (e : f_X5_judgeNet h a0 a1 a2 a3 = some r) : CMet l yX5_judgeNet (z_W yX5_judgeNet cX5_judgeNet 4 (some .int)) rmX5_judgeNet h [.ref a0, .int a1, .int a2, .int a3] (.inr (some (.int r))) h :=
  z_met hl Y_X5_judgeNet (by decide +kernel) (Nat.le_of_ble_eq_true rfl) (fun X hX E T0 M => b_X5_judgeNet E T0 e M)
abbrev rmX7_hasNet : Room := { frames := 0, cells := 0, slots := 0, locals := 0 }
noncomputable def f_X7_hasNet (h : PH) (a0 : Nat) (a1 : Int32) : Option Bool :=
  if a1 < 0 then
    some false
  else
    (rdI h a0 9 8).bind fun x2 =>
    if x2 ≤ a1 then
      some false
    else
      some true
theorem b_X7_hasNet {X : PX} (E : z_E X cX7_hasNet RX7 "hasNet" 2 rmX7_hasNet (some .boolean)) (T0 : z_T0 X) {h : PH} {a0 : Nat} {a1 : Int32} {r : Bool} (e : f_X7_hasNet h a0 a1 = some r) (M : z_M X rmX7_hasNet.cells rmX7_hasNet.slots (.inr (some (.int (zb r)))) h) : WP X 2 0 0 0 [(0, .ref a0), (1, .int a1)] [] h := by
  unfold f_X7_hasNet at e
  refine z_iload_n E 1 dX7_hasNet_0 rfl ?_
  rcases oi e with ⟨c1, e⟩ | ⟨c1, e⟩
  · refine z_if_ltT (tgt := 16) E dX7_hasNet_1 rfl c1 ?_
    refine z_iconst E dX7_hasNet_16 ic_0 ?_
    obtain rfl := Option.some.inj e
    exact z_iret E M dX7_hasNet_17 rfl rfl rfl rfl (by decide) (by decide)
  · refine z_if_ltF (tgt := 16) E dX7_hasNet_1 rfl c1 ?_
    refine z_iload_n E 1 dX7_hasNet_4 rfl ?_
    refine z_aload_n E 0 dX7_hasNet_5 rfl ?_
    obtain ⟨x2, e3, e⟩ := ob e
    refine z_getI E fl_X7_62 dX7_hasNet_6 e3 ?_
    rcases oi e with ⟨c4, e⟩ | ⟨c4, e⟩
    · refine z_icmp_geT (tgt := 16) E dX7_hasNet_9 rfl c4 ?_
      refine z_iconst E dX7_hasNet_16 ic_0 ?_
      obtain rfl := Option.some.inj e
      exact z_iret E M dX7_hasNet_17 rfl rfl rfl rfl (by decide) (by decide)
    · refine z_icmp_geF (tgt := 16) E dX7_hasNet_9 rfl c4 ?_
      refine z_iconst E dX7_hasNet_12 ic_1 ?_
      refine z_goto (tgt := 17) E dX7_hasNet_13 rfl ?_
      obtain rfl := Option.some.inj e
      exact z_iret E M dX7_hasNet_17 rfl rfl rfl rfl (by decide) (by decide)
theorem c_X7_hasNet {l : Launch} (hl : l.stackTraces = false) {h : PH} {a0 : Nat} {a1 : Int32} {r : Bool} (e : f_X7_hasNet h a0 a1 = some r) : CMet l yX7_hasNet (z_W yX7_hasNet cX7_hasNet 2 (some .boolean)) rmX7_hasNet h [.ref a0, .int a1] (.inr (some (.int (zb r)))) h :=
  z_met hl Y_X7_hasNet (by decide +kernel) (Nat.le_of_ble_eq_true rfl) (fun X hX E T0 M => b_X7_hasNet E T0 e M)
abbrev rmJ9_floorMod_7cf53 : Room := { frames := 0, cells := 0, slots := 0, locals := 0 }
noncomputable def f_J9_floorMod_7cf53 (a0 : Int32) (a1 : Int32) : Option Int32 :=
  if a1 = 0 then
    none
  else
    if 0 ≤ (a0 ^^^ a1) then
      some (zrem a0 a1)
    else
      if (zrem a0 a1) = 0 then
        some (zrem a0 a1)
      else
        some ((zrem a0 a1) + a1)
theorem b_J9_floorMod_7cf53 {X : PX} (E : z_E X cJ9_floorMod_7cf53 RJ9 "floorMod" 3 rmJ9_floorMod_7cf53 (some .int)) (T0 : z_T0 X) {h : PH} {a0 : Int32} {a1 : Int32} {r : Int32} (e : f_J9_floorMod_7cf53 a0 a1 = some r) (M : z_M X rmJ9_floorMod_7cf53.cells rmJ9_floorMod_7cf53.slots (.inr (some (.int r))) h) : WP X 3 0 0 0 [(0, .int a0), (1, .int a1)] [] h := by
  unfold f_J9_floorMod_7cf53 at e
  refine z_iload_n E 0 dJ9_floorMod_7cf53_0 rfl ?_
  refine z_iload_n E 1 dJ9_floorMod_7cf53_1 rfl ?_
  rcases oi e with ⟨c1, e⟩ | ⟨c1, e⟩
  · cases e
  · refine z_irem E dJ9_floorMod_7cf53_2 c1 ?_
    refine z_istore_n (lv2 := [(2, .int (zrem a0 a1)), (0, .int a0), (1, .int a1)]) E dJ9_floorMod_7cf53_3 (by decide) rfl ?_
    refine z_iload_n E 1 dJ9_floorMod_7cf53_4 rfl ?_
    refine z_iload_n E 2 dJ9_floorMod_7cf53_5 rfl ?_
    refine z_ixor E dJ9_floorMod_7cf53_6 ?_
    rcases oi e with ⟨c2, e⟩ | ⟨c2, e⟩
    · refine z_if_geT (tgt := 18) E dJ9_floorMod_7cf53_7 rfl c2 ?_
      refine z_iload_n E 0 dJ9_floorMod_7cf53_18 rfl ?_
      obtain rfl := Option.some.inj e
      exact z_iret E M dJ9_floorMod_7cf53_19 rfl rfl rfl rfl (by decide) (by decide)
    · refine z_if_geF (tgt := 18) E dJ9_floorMod_7cf53_7 rfl c2 ?_
      refine z_iload_n E 0 dJ9_floorMod_7cf53_10 rfl ?_
      rcases oi e with ⟨c3, e⟩ | ⟨c3, e⟩
      · refine z_if_eqT (tgt := 18) E dJ9_floorMod_7cf53_11 rfl c3 ?_
        refine z_iload_n E 0 dJ9_floorMod_7cf53_18 rfl ?_
        obtain rfl := Option.some.inj e
        exact z_iret E M dJ9_floorMod_7cf53_19 rfl rfl rfl rfl (by decide) (by decide)
      · refine z_if_eqF (tgt := 18) E dJ9_floorMod_7cf53_11 rfl c3 ?_
        refine z_iload_n E 0 dJ9_floorMod_7cf53_14 rfl ?_
        refine z_iload_n E 2 dJ9_floorMod_7cf53_15 rfl ?_
        refine z_iadd E dJ9_floorMod_7cf53_16 ?_
        obtain rfl := Option.some.inj e
        exact z_iret E M dJ9_floorMod_7cf53_17 rfl rfl rfl rfl (by decide) (by decide)
theorem c_J9_floorMod_7cf53 {l : Launch} (hl : l.stackTraces = false) {h : PH} {a0 : Int32} {a1 : Int32} {r : Int32} (e : f_J9_floorMod_7cf53 a0 a1 = some r) : CMet l yJ9_floorMod_7cf53 (z_W yJ9_floorMod_7cf53 cJ9_floorMod_7cf53 3 (some .int)) rmJ9_floorMod_7cf53 h [.int a0, .int a1] (.inr (some (.int r))) h :=
  z_metF hl Y_J9_floorMod_7cf53 (by decide +kernel) (Nat.le_of_ble_eq_true rfl) (fun X hX E T0 M => b_J9_floorMod_7cf53 E T0 e M)
abbrev rmX7_presentSeason : Room := { frames := 1, cells := 0, slots := 0, locals := 22 }
noncomputable def f_X7_presentSeason (h : PH) (a0 : Nat) : Option Int32 :=
  (rdI h a0 9 13).bind fun x1 =>
  (f_J9_floorMod_7cf53 (x1 / (30 : Int32)) (4 : Int32)).bind fun p3 =>
  some p3
theorem b_X7_presentSeason {X : PX} (E : z_E X cX7_presentSeason RX7 "presentSeason" 1 rmX7_presentSeason (some .int)) (T0 : z_T0 X) {h : PH} {a0 : Nat} {r : Int32} (e : f_X7_presentSeason h a0 = some r) (M : z_M X rmX7_presentSeason.cells rmX7_presentSeason.slots (.inr (some (.int r))) h) : WP X 1 0 0 0 [(0, .ref a0)] [] h := by
  unfold f_X7_presentSeason at e
  refine z_aload_n E 0 dX7_presentSeason_0 rfl ?_
  obtain ⟨x1, e2, e⟩ := ob e
  refine z_getI E fl_X7_69 dX7_presentSeason_1 e2 ?_
  refine z_bipush E dX7_presentSeason_4 bp_30 ?_
  refine z_idiv E dX7_presentSeason_6 (by decide) ?_
  refine z_iconst E dX7_presentSeason_7 ic_4 ?_
  obtain ⟨p3, e4, e⟩ := ob e
  refine z_kR2 (st := []) (av := [.int (x1 / (30 : Int32)), .int (4 : Int32)]) E 0 0 (z_rS (st := []) (av := [.int (x1 / (30 : Int32)), .int (4 : Int32)]) E Y_J9_floorMod_7cf53 k_X7_78 (c_J9_floorMod_7cf53 (z_El E) e4) dX7_presentSeason_8 rfl rfl (by decide) (by decide) (by decide) (by decide) (Nat.zero_le _)) rfl rfl rfl ?_
  obtain rfl := Option.some.inj e
  exact z_iret E M dX7_presentSeason_11 rfl rfl rfl rfl (by decide) (by decide)
theorem c_X7_presentSeason {l : Launch} (hl : l.stackTraces = false) {h : PH} {a0 : Nat} {r : Int32} (e : f_X7_presentSeason h a0 = some r) : CMet l yX7_presentSeason (z_W yX7_presentSeason cX7_presentSeason 1 (some .int)) rmX7_presentSeason h [.ref a0] (.inr (some (.int r))) h :=
  z_met hl Y_X7_presentSeason (by decide +kernel) (Nat.le_of_ble_eq_true rfl) (fun X hX E T0 M => b_X7_presentSeason E T0 e M)
abbrev rmX5_judgeHaul : Room := { frames := 2, cells := 0, slots := 0, locals := 42 }
noncomputable def f_X5_judgeHaul (h : PH) (a0 : Nat) (a1 : Int32) : Option Int32 :=
  (gd h a0 9).bind fun _ =>
  (f_X7_hasNet h a0 a1).bind fun p2 =>
  if p2 = true then
    (rdI h a0 9 12).bind fun x5 =>
    if ¬ x5 = 0 then
      (gd h a0 9).bind fun _ =>
      (f_X7_presentSeason h a0).bind fun p9 =>
      if ¬ p9 = 0 then
        some (0 : Int32)
      else
        (rdR h a0 9 11).bind fun x12 =>
        (alI .int h x12 a1).bind fun x14 =>
        if (10 : Int32) ≤ x14 then
          some (0 : Int32)
        else
          some (3 : Int32)
    else
      some (2 : Int32)
  else
    some (-3 : Int32)
theorem b_X5_judgeHaul {X : PX} (E : z_E X cX5_judgeHaul RX5 "judgeHaul" 3 rmX5_judgeHaul (some .int)) (T0 : z_T0 X) {h : PH} {a0 : Nat} {a1 : Int32} {r : Int32} (e : f_X5_judgeHaul h a0 a1 = some r) (M : z_M X rmX5_judgeHaul.cells rmX5_judgeHaul.slots (.inr (some (.int r))) h) : WP X 3 0 0 0 [(0, .ref a0), (1, .int a1)] [] h := by
  unfold f_X5_judgeHaul at e
  refine z_aload_n E 0 dX5_judgeHaul_0 rfl ?_
  refine z_iload_n E 1 dX5_judgeHaul_1 rfl ?_
  obtain ⟨_, e1, e⟩ := ob e
  obtain ⟨p2, e3, e⟩ := ob e
  refine z_kR2 (st := []) (av := [.ref a0, .int a1]) E 0 0 (z_rV (st := []) (av := [.int a1]) E Y_X7_hasNet k_X5_31 (ci := 9) rfl (c_X7_hasNet (z_El E) e3) dX5_judgeHaul_2 e1 rfl rfl (by decide) (by decide) (by decide) (by decide) (Nat.zero_le _)) rfl rfl rfl ?_
  rcases oi e with ⟨c4, e⟩ | ⟨c4, e⟩
  · refine z_if_neT (tgt := 11) E dX5_judgeHaul_5 rfl (zb_t c4) ?_
    refine z_aload_n E 0 dX5_judgeHaul_11 rfl ?_
    obtain ⟨x5, e6, e⟩ := ob e
    refine z_getI E fl_X5_69 dX5_judgeHaul_12 e6 ?_
    rcases oi e with ⟨c7, e⟩ | ⟨c7, e⟩
    · refine z_if_neT (tgt := 20) E dX5_judgeHaul_15 rfl c7 ?_
      refine z_aload_n E 0 dX5_judgeHaul_20 rfl ?_
      obtain ⟨_, e8, e⟩ := ob e
      obtain ⟨p9, e10, e⟩ := ob e
      refine z_kR2 (st := []) (av := [.ref a0]) E 0 0 (z_rV (st := []) (av := []) E Y_X7_presentSeason k_X5_73 (ci := 9) rfl (c_X7_presentSeason (z_El E) e10) dX5_judgeHaul_21 e8 rfl rfl (by decide) (by decide) (by decide) (by decide) (Nat.zero_le _)) rfl rfl rfl ?_
      rcases oi e with ⟨c11, e⟩ | ⟨c11, e⟩
      · refine z_if_neT (tgt := 42) E dX5_judgeHaul_24 rfl c11 ?_
        refine z_iconst E dX5_judgeHaul_42 ic_0 ?_
        refine z_istore_n (lv2 := [(2, .int (0 : Int32)), (0, .ref a0), (1, .int a1)]) E dX5_judgeHaul_43 (by decide) rfl ?_
        refine z_iload_n E 0 dX5_judgeHaul_44 rfl ?_
        refine z_if_eqT (tgt := 52) E dX5_judgeHaul_45 rfl (by decide) ?_
        refine z_iconst E dX5_judgeHaul_52 ic_0 ?_
        obtain rfl := Option.some.inj e
        exact z_iret E M dX5_judgeHaul_53 rfl rfl rfl rfl (by decide) (by decide)
      · refine z_if_neF (tgt := 42) E dX5_judgeHaul_24 rfl (Classical.not_not.mp c11) ?_
        refine z_aload_n E 0 dX5_judgeHaul_27 rfl ?_
        obtain ⟨x12, e13, e⟩ := ob e
        refine z_getR E fl_X5_77 dX5_judgeHaul_28 e13 ?_
        refine z_iload_n E 1 dX5_judgeHaul_31 rfl ?_
        obtain ⟨x14, e15, e⟩ := ob e
        refine z_iald E dX5_judgeHaul_32 e15 ?_
        refine z_bipush E dX5_judgeHaul_33 bp_10 ?_
        rcases oi e with ⟨c16, e⟩ | ⟨c16, e⟩
        · refine z_icmp_geT (tgt := 42) E dX5_judgeHaul_35 rfl c16 ?_
          refine z_iconst E dX5_judgeHaul_42 ic_0 ?_
          refine z_istore_n (lv2 := [(2, .int (0 : Int32)), (0, .ref a0), (1, .int a1)]) E dX5_judgeHaul_43 (by decide) rfl ?_
          refine z_iload_n E 0 dX5_judgeHaul_44 rfl ?_
          refine z_if_eqT (tgt := 52) E dX5_judgeHaul_45 rfl (by decide) ?_
          refine z_iconst E dX5_judgeHaul_52 ic_0 ?_
          obtain rfl := Option.some.inj e
          exact z_iret E M dX5_judgeHaul_53 rfl rfl rfl rfl (by decide) (by decide)
        · refine z_icmp_geF (tgt := 42) E dX5_judgeHaul_35 rfl c16 ?_
          refine z_iconst E dX5_judgeHaul_38 ic_1 ?_
          refine z_goto (tgt := 43) E dX5_judgeHaul_39 rfl ?_
          refine z_istore_n (lv2 := [(2, .int (1 : Int32)), (0, .ref a0), (1, .int a1)]) E dX5_judgeHaul_43 (by decide) rfl ?_
          refine z_iload_n E 0 dX5_judgeHaul_44 rfl ?_
          refine z_if_eqF (tgt := 52) E dX5_judgeHaul_45 rfl (by decide) ?_
          refine z_iconst E dX5_judgeHaul_48 ic_3 ?_
          refine z_goto (tgt := 53) E dX5_judgeHaul_49 rfl ?_
          obtain rfl := Option.some.inj e
          exact z_iret E M dX5_judgeHaul_53 rfl rfl rfl rfl (by decide) (by decide)
    · refine z_if_neF (tgt := 20) E dX5_judgeHaul_15 rfl (Classical.not_not.mp c7) ?_
      refine z_iconst E dX5_judgeHaul_18 ic_2 ?_
      obtain rfl := Option.some.inj e
      exact z_iret E M dX5_judgeHaul_19 rfl rfl rfl rfl (by decide) (by decide)
  · refine z_if_neF (tgt := 11) E dX5_judgeHaul_5 rfl (zb_nt c4) ?_
    refine z_bipush E dX5_judgeHaul_8 bp_m3 ?_
    obtain rfl := Option.some.inj e
    exact z_iret E M dX5_judgeHaul_10 rfl rfl rfl rfl (by decide) (by decide)
theorem c_X5_judgeHaul {l : Launch} (hl : l.stackTraces = false) {h : PH} {a0 : Nat} {a1 : Int32} {r : Int32} (e : f_X5_judgeHaul h a0 a1 = some r) : CMet l yX5_judgeHaul (z_W yX5_judgeHaul cX5_judgeHaul 3 (some .int)) rmX5_judgeHaul h [.ref a0, .int a1] (.inr (some (.int r))) h :=
  z_met hl Y_X5_judgeHaul (by decide +kernel) (Nat.le_of_ble_eq_true rfl) (fun X hX E T0 M => b_X5_judgeHaul E T0 e M)
abbrev rmX9_bit : Room := { frames := 0, cells := 0, slots := 0, locals := 0 }
noncomputable def f_X9_bit (a0 : Int32) : Int32 :=
  (zshl (1 : Int32) a0)
theorem b_X9_bit {X : PX} (E : z_E X cX9_bit RX9 "bit" 1 rmX9_bit (some .int)) (T0 : z_T0 X) {h : PH} {a0 : Int32} {r : Int32} (e : f_X9_bit a0 = r) (M : z_M X rmX9_bit.cells rmX9_bit.slots (.inr (some (.int r))) h) : WP X 1 0 0 0 [(0, .int a0)] [] h := by
  unfold f_X9_bit at e
  refine z_iconst E dX9_bit_0 ic_1 ?_
  refine z_iload_n E 0 dX9_bit_1 rfl ?_
  refine z_ishl E dX9_bit_2 ?_
  subst e
  exact z_iret E M dX9_bit_3 rfl rfl rfl rfl (by decide) (by decide)
theorem c_X9_bit {l : Launch} (hl : l.stackTraces = false) {h : PH} (a0 : Int32) : CMet l yX9_bit (z_W yX9_bit cX9_bit 1 (some .int)) rmX9_bit h [.int a0] (.inr (some (.int (f_X9_bit a0)))) h :=
  z_met hl Y_X9_bit (by decide +kernel) (Nat.le_of_ble_eq_true rfl) (fun X hX E T0 M => b_X9_bit E T0 rfl M)
abbrev rmX7_setOf : Room := { frames := 1, cells := 0, slots := 0, locals := 20 }
noncomputable def f_X7_setOf_L4 : Nat → PH → Nat → Int32 → Int32 → Int32 → Option Int32
  | 0, _, _, _, _, _ => none
  | fu + 1, h, v0, v1, v2, v3 =>
    (rdI h v0 9 0).bind fun x1 =>
    if x1 ≤ v3 then
      some v2
    else
      (rdR h v0 9 3).bind fun x4 =>
      (alI .char h x4 v3).bind fun x6 =>
      if ¬ x6 = v1 then
        f_X7_setOf_L4 fu h v0 v1 v2 (v3 + (1 : Int32))
      else
        f_X7_setOf_L4 fu h v0 v1 (v2 ||| (f_X9_bit v3)) (v3 + (1 : Int32))
theorem b_X7_setOf_L4 {X : PX} (E : z_E X cX7_setOf RX7 "setOf" 4 rmX7_setOf (some .int)) (T0 : z_T0 X) {k n : Nat} (hk : k + 0 ≤ rmX7_setOf.cells) (hn : n + 0 ≤ rmX7_setOf.slots) {s : Int32} : ∀ (fu : Nat) (h : PH) (v0 : Nat) (v1 : Int32) (v2 : Int32) (v3 : Int32) (e : f_X7_setOf_L4 fu h v0 v1 v2 v3 = some s) (kk : WP X 4 k n 35 [(2, .int s)] [] h), WP X 4 k n 4 [(0, .ref v0), (1, .int v1), (2, .int v2), (3, .int v3)] [] h := by
  intro fu
  induction fu with
  | zero => intro h v0 v1 v2 v3 e; exact absurd (show (none : Option Int32) = some s from e) (by intro z; cases z)
  | succ fu ih =>
    intro h v0 v1 v2 v3 e kk
    unfold f_X7_setOf_L4 at e
    refine z_iload_n E 3 dX7_setOf_4 rfl ?_
    refine z_aload_n E 0 dX7_setOf_5 rfl ?_
    obtain ⟨x1, e2, e⟩ := ob e
    refine z_getI E fl_X7_53 dX7_setOf_6 e2 ?_
    rcases oi e with ⟨c3, e⟩ | ⟨c3, e⟩
    · refine z_icmp_geT (tgt := 35) E dX7_setOf_9 rfl c3 ?_
      obtain rfl := Option.some.inj e
      exact z_sub [2] rfl kk
    · refine z_icmp_geF (tgt := 35) E dX7_setOf_9 rfl c3 ?_
      refine z_aload_n E 0 dX7_setOf_12 rfl ?_
      obtain ⟨x4, e5, e⟩ := ob e
      refine z_getR E fl_X7_18 dX7_setOf_13 e5 ?_
      refine z_iload_n E 3 dX7_setOf_16 rfl ?_
      obtain ⟨x6, e7, e⟩ := ob e
      refine z_cald E dX7_setOf_17 e7 ?_
      refine z_iload_n E 1 dX7_setOf_18 rfl ?_
      rcases oi e with ⟨c8, e⟩ | ⟨c8, e⟩
      · refine z_icmp_neT (tgt := 29) E dX7_setOf_19 rfl c8 ?_
        refine z_iinc (v := (v3 + (1 : Int32))) (lv2 := [(3, .int (v3 + (1 : Int32))), (0, .ref v0), (1, .int v1), (2, .int v2)]) E 3 dX7_setOf_29 rfl (congrArg (v3 + ·) ic_1) (by decide) rfl ?_
        refine z_goto (tgt := 4) E dX7_setOf_32 rfl ?_
        exact z_sub [1, 2, 3, 0] rfl (ih _ _ _ _ _ e kk)
      · refine z_icmp_neF (tgt := 29) E dX7_setOf_19 rfl (Classical.not_not.mp c8) ?_
        refine z_iload_n E 2 dX7_setOf_22 rfl ?_
        refine z_iload_n E 3 dX7_setOf_23 rfl ?_
        refine z_kR2 (st := [.int v2]) (av := [.int v3]) E k n (z_rSN (st := [.int v2]) (av := [.int v3]) E Y_X9_bit k_X7_91 (c_X9_bit (l := z_l X) (h := h) (z_El E) v3) dX7_setOf_24 rfl rfl (by decide) (by decide) (zk (k := k) (a := 0) hk (by decide)) (zk (k := n) (a := 0) hn (by decide)) (Nat.le_of_ble_eq_true rfl)) rfl rfl rfl ?_
        refine z_ior E dX7_setOf_27 ?_
        refine z_istore_n (lv2 := [(2, .int (v2 ||| (f_X9_bit v3))), (0, .ref v0), (1, .int v1), (3, .int v3)]) E dX7_setOf_28 (by decide) rfl ?_
        refine z_iinc (v := (v3 + (1 : Int32))) (lv2 := [(3, .int (v3 + (1 : Int32))), (2, .int (v2 ||| (f_X9_bit v3))), (0, .ref v0), (1, .int v1)]) E 3 dX7_setOf_29 rfl (congrArg (v3 + ·) ic_1) (by decide) rfl ?_
        refine z_goto (tgt := 4) E dX7_setOf_32 rfl ?_
        exact z_sub [2, 3, 1, 0] rfl (ih _ _ _ _ _ e kk)
noncomputable def f_X7_setOf (h : PH) (a0 : Nat) (a1 : Int32) : Option Int32 :=
  (f_X7_setOf_L4 FV h a0 a1 (0 : Int32) (0 : Int32)).bind fun s1 =>
  some s1
theorem b_X7_setOf {X : PX} (E : z_E X cX7_setOf RX7 "setOf" 4 rmX7_setOf (some .int)) (T0 : z_T0 X) {h : PH} {a0 : Nat} {a1 : Int32} {r : Int32} (e : f_X7_setOf h a0 a1 = some r) (M : z_M X rmX7_setOf.cells rmX7_setOf.slots (.inr (some (.int r))) h) : WP X 4 0 0 0 [(0, .ref a0), (1, .int a1)] [] h := by
  unfold f_X7_setOf at e
  refine z_iconst E dX7_setOf_0 ic_0 ?_
  refine z_istore_n (lv2 := [(2, .int (0 : Int32)), (0, .ref a0), (1, .int a1)]) E dX7_setOf_1 (by decide) rfl ?_
  refine z_iconst E dX7_setOf_2 ic_0 ?_
  refine z_istore_n (lv2 := [(3, .int (0 : Int32)), (2, .int (0 : Int32)), (0, .ref a0), (1, .int a1)]) E dX7_setOf_3 (by decide) rfl ?_
  obtain ⟨s1, e2, e⟩ := ob e
  refine z_sub [2, 3, 1, 0] rfl (b_X7_setOf_L4 E T0 (by decide) (by decide) FV _ _ _ _ _ e2 ?_)
  refine z_iload_n E 0 dX7_setOf_35 rfl ?_
  obtain rfl := Option.some.inj e
  exact z_iret E M dX7_setOf_36 rfl rfl rfl rfl (by decide) (by decide)
theorem c_X7_setOf {l : Launch} (hl : l.stackTraces = false) {h : PH} {a0 : Nat} {a1 : Int32} {r : Int32} (e : f_X7_setOf h a0 a1 = some r) : CMet l yX7_setOf (z_W yX7_setOf cX7_setOf 4 (some .int)) rmX7_setOf h [.ref a0, .int a1] (.inr (some (.int r))) h :=
  z_met hl Y_X7_setOf (by decide +kernel) (Nat.le_of_ble_eq_true rfl) (fun X hX E T0 M => b_X7_setOf E T0 e M)
abbrev rmJ6_bitCount_0f7a4 : Room := { frames := 0, cells := 0, slots := 0, locals := 0 }
noncomputable def f_J6_bitCount_0f7a4 (a0 : Int32) : Int32 :=
  ((((((((a0 - ((zushr a0 (1 : Int32)) &&& (1431655765 : Int32))) &&& (858993459 : Int32)) + ((zushr (a0 - ((zushr a0 (1 : Int32)) &&& (1431655765 : Int32))) (2 : Int32)) &&& (858993459 : Int32))) + (zushr (((a0 - ((zushr a0 (1 : Int32)) &&& (1431655765 : Int32))) &&& (858993459 : Int32)) + ((zushr (a0 - ((zushr a0 (1 : Int32)) &&& (1431655765 : Int32))) (2 : Int32)) &&& (858993459 : Int32))) (4 : Int32))) &&& (252645135 : Int32)) + (zushr (((((a0 - ((zushr a0 (1 : Int32)) &&& (1431655765 : Int32))) &&& (858993459 : Int32)) + ((zushr (a0 - ((zushr a0 (1 : Int32)) &&& (1431655765 : Int32))) (2 : Int32)) &&& (858993459 : Int32))) + (zushr (((a0 - ((zushr a0 (1 : Int32)) &&& (1431655765 : Int32))) &&& (858993459 : Int32)) + ((zushr (a0 - ((zushr a0 (1 : Int32)) &&& (1431655765 : Int32))) (2 : Int32)) &&& (858993459 : Int32))) (4 : Int32))) &&& (252645135 : Int32)) (8 : Int32))) + (zushr ((((((a0 - ((zushr a0 (1 : Int32)) &&& (1431655765 : Int32))) &&& (858993459 : Int32)) + ((zushr (a0 - ((zushr a0 (1 : Int32)) &&& (1431655765 : Int32))) (2 : Int32)) &&& (858993459 : Int32))) + (zushr (((a0 - ((zushr a0 (1 : Int32)) &&& (1431655765 : Int32))) &&& (858993459 : Int32)) + ((zushr (a0 - ((zushr a0 (1 : Int32)) &&& (1431655765 : Int32))) (2 : Int32)) &&& (858993459 : Int32))) (4 : Int32))) &&& (252645135 : Int32)) + (zushr (((((a0 - ((zushr a0 (1 : Int32)) &&& (1431655765 : Int32))) &&& (858993459 : Int32)) + ((zushr (a0 - ((zushr a0 (1 : Int32)) &&& (1431655765 : Int32))) (2 : Int32)) &&& (858993459 : Int32))) + (zushr (((a0 - ((zushr a0 (1 : Int32)) &&& (1431655765 : Int32))) &&& (858993459 : Int32)) + ((zushr (a0 - ((zushr a0 (1 : Int32)) &&& (1431655765 : Int32))) (2 : Int32)) &&& (858993459 : Int32))) (4 : Int32))) &&& (252645135 : Int32)) (8 : Int32))) (16 : Int32))) &&& (63 : Int32))
theorem b_J6_bitCount_0f7a4 {X : PX} (E : z_E X cJ6_bitCount_0f7a4 RJ6 "bitCount" 1 rmJ6_bitCount_0f7a4 (some .int)) (T0 : z_T0 X) {h : PH} {a0 : Int32} {r : Int32} (e : f_J6_bitCount_0f7a4 a0 = r) (M : z_M X rmJ6_bitCount_0f7a4.cells rmJ6_bitCount_0f7a4.slots (.inr (some (.int r))) h) : WP X 1 0 0 0 [(0, .int a0)] [] h := by
  unfold f_J6_bitCount_0f7a4 at e
  refine z_iload_n E 0 dJ6_bitCount_0f7a4_0 rfl ?_
  refine z_iload_n E 0 dJ6_bitCount_0f7a4_1 rfl ?_
  refine z_iconst E dJ6_bitCount_0f7a4_2 ic_1 ?_
  refine z_iushr (v := (zushr a0 (1 : Int32))) E dJ6_bitCount_0f7a4_3 rfl ?_
  refine z_ldcwI E dJ6_bitCount_0f7a4_4 cn_J6_265 ?_
  refine z_iand E dJ6_bitCount_0f7a4_7 ?_
  refine z_isub E dJ6_bitCount_0f7a4_8 ?_
  refine z_istore_n (lv2 := [(0, .int (a0 - ((zushr a0 (1 : Int32)) &&& (1431655765 : Int32))))]) E dJ6_bitCount_0f7a4_9 (by decide) rfl ?_
  refine z_iload_n E 0 dJ6_bitCount_0f7a4_10 rfl ?_
  refine z_ldcwI E dJ6_bitCount_0f7a4_11 cn_J6_266 ?_
  refine z_iand E dJ6_bitCount_0f7a4_14 ?_
  refine z_iload_n E 0 dJ6_bitCount_0f7a4_15 rfl ?_
  refine z_iconst E dJ6_bitCount_0f7a4_16 ic_2 ?_
  refine z_iushr (v := (zushr (a0 - ((zushr a0 (1 : Int32)) &&& (1431655765 : Int32))) (2 : Int32))) E dJ6_bitCount_0f7a4_17 rfl ?_
  refine z_ldcwI E dJ6_bitCount_0f7a4_18 cn_J6_266 ?_
  refine z_iand E dJ6_bitCount_0f7a4_21 ?_
  refine z_iadd E dJ6_bitCount_0f7a4_22 ?_
  refine z_istore_n (lv2 := [(0, .int (((a0 - ((zushr a0 (1 : Int32)) &&& (1431655765 : Int32))) &&& (858993459 : Int32)) + ((zushr (a0 - ((zushr a0 (1 : Int32)) &&& (1431655765 : Int32))) (2 : Int32)) &&& (858993459 : Int32))))]) E dJ6_bitCount_0f7a4_23 (by decide) rfl ?_
  refine z_iload_n E 0 dJ6_bitCount_0f7a4_24 rfl ?_
  refine z_iload_n E 0 dJ6_bitCount_0f7a4_25 rfl ?_
  refine z_iconst E dJ6_bitCount_0f7a4_26 ic_4 ?_
  refine z_iushr (v := (zushr (((a0 - ((zushr a0 (1 : Int32)) &&& (1431655765 : Int32))) &&& (858993459 : Int32)) + ((zushr (a0 - ((zushr a0 (1 : Int32)) &&& (1431655765 : Int32))) (2 : Int32)) &&& (858993459 : Int32))) (4 : Int32))) E dJ6_bitCount_0f7a4_27 rfl ?_
  refine z_iadd E dJ6_bitCount_0f7a4_28 ?_
  refine z_ldcwI E dJ6_bitCount_0f7a4_29 cn_J6_267 ?_
  refine z_iand E dJ6_bitCount_0f7a4_32 ?_
  refine z_istore_n (lv2 := [(0, .int (((((a0 - ((zushr a0 (1 : Int32)) &&& (1431655765 : Int32))) &&& (858993459 : Int32)) + ((zushr (a0 - ((zushr a0 (1 : Int32)) &&& (1431655765 : Int32))) (2 : Int32)) &&& (858993459 : Int32))) + (zushr (((a0 - ((zushr a0 (1 : Int32)) &&& (1431655765 : Int32))) &&& (858993459 : Int32)) + ((zushr (a0 - ((zushr a0 (1 : Int32)) &&& (1431655765 : Int32))) (2 : Int32)) &&& (858993459 : Int32))) (4 : Int32))) &&& (252645135 : Int32)))]) E dJ6_bitCount_0f7a4_33 (by decide) rfl ?_
  refine z_iload_n E 0 dJ6_bitCount_0f7a4_34 rfl ?_
  refine z_iload_n E 0 dJ6_bitCount_0f7a4_35 rfl ?_
  refine z_bipush E dJ6_bitCount_0f7a4_36 bp_8 ?_
  refine z_iushr (v := (zushr (((((a0 - ((zushr a0 (1 : Int32)) &&& (1431655765 : Int32))) &&& (858993459 : Int32)) + ((zushr (a0 - ((zushr a0 (1 : Int32)) &&& (1431655765 : Int32))) (2 : Int32)) &&& (858993459 : Int32))) + (zushr (((a0 - ((zushr a0 (1 : Int32)) &&& (1431655765 : Int32))) &&& (858993459 : Int32)) + ((zushr (a0 - ((zushr a0 (1 : Int32)) &&& (1431655765 : Int32))) (2 : Int32)) &&& (858993459 : Int32))) (4 : Int32))) &&& (252645135 : Int32)) (8 : Int32))) E dJ6_bitCount_0f7a4_38 rfl ?_
  refine z_iadd E dJ6_bitCount_0f7a4_39 ?_
  refine z_istore_n (lv2 := [(0, .int ((((((a0 - ((zushr a0 (1 : Int32)) &&& (1431655765 : Int32))) &&& (858993459 : Int32)) + ((zushr (a0 - ((zushr a0 (1 : Int32)) &&& (1431655765 : Int32))) (2 : Int32)) &&& (858993459 : Int32))) + (zushr (((a0 - ((zushr a0 (1 : Int32)) &&& (1431655765 : Int32))) &&& (858993459 : Int32)) + ((zushr (a0 - ((zushr a0 (1 : Int32)) &&& (1431655765 : Int32))) (2 : Int32)) &&& (858993459 : Int32))) (4 : Int32))) &&& (252645135 : Int32)) + (zushr (((((a0 - ((zushr a0 (1 : Int32)) &&& (1431655765 : Int32))) &&& (858993459 : Int32)) + ((zushr (a0 - ((zushr a0 (1 : Int32)) &&& (1431655765 : Int32))) (2 : Int32)) &&& (858993459 : Int32))) + (zushr (((a0 - ((zushr a0 (1 : Int32)) &&& (1431655765 : Int32))) &&& (858993459 : Int32)) + ((zushr (a0 - ((zushr a0 (1 : Int32)) &&& (1431655765 : Int32))) (2 : Int32)) &&& (858993459 : Int32))) (4 : Int32))) &&& (252645135 : Int32)) (8 : Int32))))]) E dJ6_bitCount_0f7a4_40 (by decide) rfl ?_
  refine z_iload_n E 0 dJ6_bitCount_0f7a4_41 rfl ?_
  refine z_iload_n E 0 dJ6_bitCount_0f7a4_42 rfl ?_
  refine z_bipush E dJ6_bitCount_0f7a4_43 bp_16 ?_
  refine z_iushr (v := (zushr ((((((a0 - ((zushr a0 (1 : Int32)) &&& (1431655765 : Int32))) &&& (858993459 : Int32)) + ((zushr (a0 - ((zushr a0 (1 : Int32)) &&& (1431655765 : Int32))) (2 : Int32)) &&& (858993459 : Int32))) + (zushr (((a0 - ((zushr a0 (1 : Int32)) &&& (1431655765 : Int32))) &&& (858993459 : Int32)) + ((zushr (a0 - ((zushr a0 (1 : Int32)) &&& (1431655765 : Int32))) (2 : Int32)) &&& (858993459 : Int32))) (4 : Int32))) &&& (252645135 : Int32)) + (zushr (((((a0 - ((zushr a0 (1 : Int32)) &&& (1431655765 : Int32))) &&& (858993459 : Int32)) + ((zushr (a0 - ((zushr a0 (1 : Int32)) &&& (1431655765 : Int32))) (2 : Int32)) &&& (858993459 : Int32))) + (zushr (((a0 - ((zushr a0 (1 : Int32)) &&& (1431655765 : Int32))) &&& (858993459 : Int32)) + ((zushr (a0 - ((zushr a0 (1 : Int32)) &&& (1431655765 : Int32))) (2 : Int32)) &&& (858993459 : Int32))) (4 : Int32))) &&& (252645135 : Int32)) (8 : Int32))) (16 : Int32))) E dJ6_bitCount_0f7a4_45 rfl ?_
  refine z_iadd E dJ6_bitCount_0f7a4_46 ?_
  refine z_istore_n (lv2 := [(0, .int (((((((a0 - ((zushr a0 (1 : Int32)) &&& (1431655765 : Int32))) &&& (858993459 : Int32)) + ((zushr (a0 - ((zushr a0 (1 : Int32)) &&& (1431655765 : Int32))) (2 : Int32)) &&& (858993459 : Int32))) + (zushr (((a0 - ((zushr a0 (1 : Int32)) &&& (1431655765 : Int32))) &&& (858993459 : Int32)) + ((zushr (a0 - ((zushr a0 (1 : Int32)) &&& (1431655765 : Int32))) (2 : Int32)) &&& (858993459 : Int32))) (4 : Int32))) &&& (252645135 : Int32)) + (zushr (((((a0 - ((zushr a0 (1 : Int32)) &&& (1431655765 : Int32))) &&& (858993459 : Int32)) + ((zushr (a0 - ((zushr a0 (1 : Int32)) &&& (1431655765 : Int32))) (2 : Int32)) &&& (858993459 : Int32))) + (zushr (((a0 - ((zushr a0 (1 : Int32)) &&& (1431655765 : Int32))) &&& (858993459 : Int32)) + ((zushr (a0 - ((zushr a0 (1 : Int32)) &&& (1431655765 : Int32))) (2 : Int32)) &&& (858993459 : Int32))) (4 : Int32))) &&& (252645135 : Int32)) (8 : Int32))) + (zushr ((((((a0 - ((zushr a0 (1 : Int32)) &&& (1431655765 : Int32))) &&& (858993459 : Int32)) + ((zushr (a0 - ((zushr a0 (1 : Int32)) &&& (1431655765 : Int32))) (2 : Int32)) &&& (858993459 : Int32))) + (zushr (((a0 - ((zushr a0 (1 : Int32)) &&& (1431655765 : Int32))) &&& (858993459 : Int32)) + ((zushr (a0 - ((zushr a0 (1 : Int32)) &&& (1431655765 : Int32))) (2 : Int32)) &&& (858993459 : Int32))) (4 : Int32))) &&& (252645135 : Int32)) + (zushr (((((a0 - ((zushr a0 (1 : Int32)) &&& (1431655765 : Int32))) &&& (858993459 : Int32)) + ((zushr (a0 - ((zushr a0 (1 : Int32)) &&& (1431655765 : Int32))) (2 : Int32)) &&& (858993459 : Int32))) + (zushr (((a0 - ((zushr a0 (1 : Int32)) &&& (1431655765 : Int32))) &&& (858993459 : Int32)) + ((zushr (a0 - ((zushr a0 (1 : Int32)) &&& (1431655765 : Int32))) (2 : Int32)) &&& (858993459 : Int32))) (4 : Int32))) &&& (252645135 : Int32)) (8 : Int32))) (16 : Int32))))]) E dJ6_bitCount_0f7a4_47 (by decide) rfl ?_
  refine z_iload_n E 0 dJ6_bitCount_0f7a4_48 rfl ?_
  refine z_bipush E dJ6_bitCount_0f7a4_49 bp_63 ?_
  refine z_iand E dJ6_bitCount_0f7a4_51 ?_
  subst e
  exact z_iret E M dJ6_bitCount_0f7a4_52 rfl rfl rfl rfl (by decide) (by decide)
theorem c_J6_bitCount_0f7a4 {l : Launch} (hl : l.stackTraces = false) {h : PH} (a0 : Int32) : CMet l yJ6_bitCount_0f7a4 (z_W yJ6_bitCount_0f7a4 cJ6_bitCount_0f7a4 1 (some .int)) rmJ6_bitCount_0f7a4 h [.int a0] (.inr (some (.int (f_J6_bitCount_0f7a4 a0)))) h :=
  z_met hl Y_J6_bitCount_0f7a4 (by decide +kernel) (Nat.le_of_ble_eq_true rfl) (fun X hX E T0 M => b_J6_bitCount_0f7a4 E T0 rfl M)
abbrev rmX7_count : Room := { frames := 2, cells := 0, slots := 0, locals := 43 }
noncomputable def f_X7_count (h : PH) (a0 : Nat) (a1 : Int32) : Option Int32 :=
  (gd h a0 9).bind fun _ =>
  (f_X7_setOf h a0 a1).bind fun p2 =>
  some (f_J6_bitCount_0f7a4 p2)
theorem b_X7_count {X : PX} (E : z_E X cX7_count RX7 "count" 2 rmX7_count (some .int)) (T0 : z_T0 X) {h : PH} {a0 : Nat} {a1 : Int32} {r : Int32} (e : f_X7_count h a0 a1 = some r) (M : z_M X rmX7_count.cells rmX7_count.slots (.inr (some (.int r))) h) : WP X 2 0 0 0 [(0, .ref a0), (1, .int a1)] [] h := by
  unfold f_X7_count at e
  refine z_aload_n E 0 dX7_count_0 rfl ?_
  refine z_iload_n E 1 dX7_count_1 rfl ?_
  obtain ⟨_, e1, e⟩ := ob e
  obtain ⟨p2, e3, e⟩ := ob e
  refine z_kR2 (st := []) (av := [.ref a0, .int a1]) E 0 0 (z_rV (st := []) (av := [.int a1]) E Y_X7_setOf k_X7_95 (ci := 9) rfl (c_X7_setOf (z_El E) e3) dX7_count_2 e1 rfl rfl (by decide) (by decide) (by decide) (by decide) (Nat.zero_le _)) rfl rfl rfl ?_
  refine z_kR2 (st := []) (av := [.int p2]) E 0 0 (z_rS (st := []) (av := [.int p2]) E Y_J6_bitCount_0f7a4 k_X7_99 (c_J6_bitCount_0f7a4 (l := z_l X) (h := h) (z_El E) p2) dX7_count_5 rfl rfl (by decide) (by decide) (by decide) (by decide) (Nat.zero_le _)) rfl rfl rfl ?_
  obtain rfl := Option.some.inj e
  exact z_iret E M dX7_count_8 rfl rfl rfl rfl (by decide) (by decide)
theorem c_X7_count {l : Launch} (hl : l.stackTraces = false) {h : PH} {a0 : Nat} {a1 : Int32} {r : Int32} (e : f_X7_count h a0 a1 = some r) : CMet l yX7_count (z_W yX7_count cX7_count 2 (some .int)) rmX7_count h [.ref a0, .int a1] (.inr (some (.int r))) h :=
  z_met hl Y_X7_count (by decide +kernel) (Nat.le_of_ble_eq_true rfl) (fun X hX E T0 M => b_X7_count E T0 e M)
abbrev rmX5_judgeFree : Room := { frames := 1, cells := 0, slots := 0, locals := 21 }
noncomputable def f_X5_judgeFree (h : PH) (a0 : Nat) (a1 : Int32) : Option Int32 :=
  (gd h a0 9).bind fun _ =>
  (f_X7_hasNote h a0 a1).bind fun p2 =>
  if p2 = true then
    (rdR h a0 9 3).bind fun x5 =>
    (alI .char h x5 a1).bind fun x7 =>
    if ¬ x7 = (104 : Int32) then
      some (4 : Int32)
    else
      some (0 : Int32)
  else
    some (-2 : Int32)
theorem b_X5_judgeFree {X : PX} (E : z_E X cX5_judgeFree RX5 "judgeFree" 2 rmX5_judgeFree (some .int)) (T0 : z_T0 X) {h : PH} {a0 : Nat} {a1 : Int32} {r : Int32} (e : f_X5_judgeFree h a0 a1 = some r) (M : z_M X rmX5_judgeFree.cells rmX5_judgeFree.slots (.inr (some (.int r))) h) : WP X 2 0 0 0 [(0, .ref a0), (1, .int a1)] [] h := by
  unfold f_X5_judgeFree at e
  refine z_aload_n E 0 dX5_judgeFree_0 rfl ?_
  refine z_iload_n E 1 dX5_judgeFree_1 rfl ?_
  obtain ⟨_, e1, e⟩ := ob e
  obtain ⟨p2, e3, e⟩ := ob e
  refine z_kR2 (st := []) (av := [.ref a0, .int a1]) E 0 0 (z_rV (st := []) (av := [.int a1]) E Y_X7_hasNote k_X5_55 (ci := 9) rfl (c_X7_hasNote (z_El E) e3) dX5_judgeFree_2 e1 rfl rfl (by decide) (by decide) (by decide) (by decide) (Nat.zero_le _)) rfl rfl rfl ?_
  rcases oi e with ⟨c4, e⟩ | ⟨c4, e⟩
  · refine z_if_neT (tgt := 11) E dX5_judgeFree_5 rfl (zb_t c4) ?_
    refine z_aload_n E 0 dX5_judgeFree_11 rfl ?_
    obtain ⟨x5, e6, e⟩ := ob e
    refine z_getR E fl_X5_80 dX5_judgeFree_12 e6 ?_
    refine z_iload_n E 1 dX5_judgeFree_15 rfl ?_
    obtain ⟨x7, e8, e⟩ := ob e
    refine z_cald E dX5_judgeFree_16 e8 ?_
    refine z_bipush E dX5_judgeFree_17 bp_104 ?_
    rcases oi e with ⟨c9, e⟩ | ⟨c9, e⟩
    · refine z_icmp_neT (tgt := 26) E dX5_judgeFree_19 rfl c9 ?_
      refine z_iconst E dX5_judgeFree_26 ic_4 ?_
      obtain rfl := Option.some.inj e
      exact z_iret E M dX5_judgeFree_27 rfl rfl rfl rfl (by decide) (by decide)
    · refine z_icmp_neF (tgt := 26) E dX5_judgeFree_19 rfl (Classical.not_not.mp c9) ?_
      refine z_iconst E dX5_judgeFree_22 ic_0 ?_
      refine z_goto (tgt := 27) E dX5_judgeFree_23 rfl ?_
      obtain rfl := Option.some.inj e
      exact z_iret E M dX5_judgeFree_27 rfl rfl rfl rfl (by decide) (by decide)
  · refine z_if_neF (tgt := 11) E dX5_judgeFree_5 rfl (zb_nt c4) ?_
    refine z_bipush E dX5_judgeFree_8 bp_m2 ?_
    obtain rfl := Option.some.inj e
    exact z_iret E M dX5_judgeFree_10 rfl rfl rfl rfl (by decide) (by decide)
theorem c_X5_judgeFree {l : Launch} (hl : l.stackTraces = false) {h : PH} {a0 : Nat} {a1 : Int32} {r : Int32} (e : f_X5_judgeFree h a0 a1 = some r) : CMet l yX5_judgeFree (z_W yX5_judgeFree cX5_judgeFree 2 (some .int)) rmX5_judgeFree h [.ref a0, .int a1] (.inr (some (.int r))) h :=
  z_met hl Y_X5_judgeFree (by decide +kernel) (Nat.le_of_ble_eq_true rfl) (fun X hX E T0 M => b_X5_judgeFree E T0 e M)
abbrev rmX7_licencePrice : Room := { frames := 2, cells := 0, slots := 0, locals := 42 }
noncomputable def f_X7_licencePrice (h : PH) (a0 : Nat) : Option Int32 :=
  (gd h a0 9).bind fun _ =>
  (f_X7_presentSeason h a0).bind fun p2 =>
  (alI .int h 1 p2).bind fun x4 =>
  some x4
theorem b_X7_licencePrice {X : PX} (E : z_E X cX7_licencePrice RX7 "licencePrice" 1 rmX7_licencePrice (some .int)) (T0 : z_T0 X) {h : PH} {a0 : Nat} {r : Int32} (e : f_X7_licencePrice h a0 = some r) (M : z_M X rmX7_licencePrice.cells rmX7_licencePrice.slots (.inr (some (.int r))) h) : WP X 1 0 0 0 [(0, .ref a0)] [] h := by
  unfold f_X7_licencePrice at e
  refine z_getsN E (List.mem_of_getElem? (i := 0) rfl) (List.mem_of_getElem? (i := 0) rfl) dX7_licencePrice_0 ?_
  refine z_aload_n E 0 dX7_licencePrice_3 rfl ?_
  obtain ⟨_, e1, e⟩ := ob e
  obtain ⟨p2, e3, e⟩ := ob e
  refine z_kR2 (st := [.ref 1]) (av := [.ref a0]) E 0 0 (z_rV (st := [.ref 1]) (av := []) E Y_X7_presentSeason k_X7_87 (ci := 9) rfl (c_X7_presentSeason (z_El E) e3) dX7_licencePrice_4 e1 rfl rfl (by decide) (by decide) (by decide) (by decide) (Nat.le_of_ble_eq_true rfl)) rfl rfl rfl ?_
  obtain ⟨x4, e5, e⟩ := ob e
  refine z_iald E dX7_licencePrice_7 e5 ?_
  obtain rfl := Option.some.inj e
  exact z_iret E M dX7_licencePrice_8 rfl rfl rfl rfl (by decide) (by decide)
theorem c_X7_licencePrice {l : Launch} (hl : l.stackTraces = false) {h : PH} {a0 : Nat} {r : Int32} (e : f_X7_licencePrice h a0 = some r) : CMet l yX7_licencePrice (z_W yX7_licencePrice cX7_licencePrice 1 (some .int)) rmX7_licencePrice h [.ref a0] (.inr (some (.int r))) h :=
  z_met hl Y_X7_licencePrice (by decide +kernel) (Nat.le_of_ble_eq_true rfl) (fun X hX E T0 M => b_X7_licencePrice E T0 e M)
abbrev rmX5_judgeLicence : Room := { frames := 3, cells := 0, slots := 0, locals := 62 }
noncomputable def f_X5_judgeLicence (h : PH) (a0 : Nat) : Option Int32 :=
  (rdI h a0 9 12).bind fun x1 =>
  if x1 = 0 then
    (rdI h a0 9 14).bind fun x4 =>
    (gd h a0 9).bind fun _ =>
    (f_X7_licencePrice h a0).bind fun p7 =>
    if p7 ≤ x4 then
      some (0 : Int32)
    else
      some (6 : Int32)
  else
    some (8 : Int32)
theorem b_X5_judgeLicence {X : PX} (E : z_E X cX5_judgeLicence RX5 "judgeLicence" 1 rmX5_judgeLicence (some .int)) (T0 : z_T0 X) {h : PH} {a0 : Nat} {r : Int32} (e : f_X5_judgeLicence h a0 = some r) (M : z_M X rmX5_judgeLicence.cells rmX5_judgeLicence.slots (.inr (some (.int r))) h) : WP X 1 0 0 0 [(0, .ref a0)] [] h := by
  unfold f_X5_judgeLicence at e
  refine z_aload_n E 0 dX5_judgeLicence_0 rfl ?_
  obtain ⟨x1, e2, e⟩ := ob e
  refine z_getI E fl_X5_69 dX5_judgeLicence_1 e2 ?_
  rcases oi e with ⟨c3, e⟩ | ⟨c3, e⟩
  · refine z_if_eqT (tgt := 10) E dX5_judgeLicence_4 rfl c3 ?_
    refine z_aload_n E 0 dX5_judgeLicence_10 rfl ?_
    obtain ⟨x4, e5, e⟩ := ob e
    refine z_getI E fl_X5_84 dX5_judgeLicence_11 e5 ?_
    refine z_aload_n E 0 dX5_judgeLicence_14 rfl ?_
    obtain ⟨_, e6, e⟩ := ob e
    obtain ⟨p7, e8, e⟩ := ob e
    refine z_kR2 (st := [.int x4]) (av := [.ref a0]) E 0 0 (z_rV (st := [.int x4]) (av := []) E Y_X7_licencePrice k_X5_87 (ci := 9) rfl (c_X7_licencePrice (z_El E) e8) dX5_judgeLicence_15 e6 rfl rfl (by decide) (by decide) (by decide) (by decide) (Nat.le_of_ble_eq_true rfl)) rfl rfl rfl ?_
    rcases oi e with ⟨c9, e⟩ | ⟨c9, e⟩
    · refine z_icmp_geT (tgt := 26) E dX5_judgeLicence_18 rfl c9 ?_
      refine z_iconst E dX5_judgeLicence_26 ic_0 ?_
      obtain rfl := Option.some.inj e
      exact z_iret E M dX5_judgeLicence_27 rfl rfl rfl rfl (by decide) (by decide)
    · refine z_icmp_geF (tgt := 26) E dX5_judgeLicence_18 rfl c9 ?_
      refine z_bipush E dX5_judgeLicence_21 bp_6 ?_
      refine z_goto (tgt := 27) E dX5_judgeLicence_23 rfl ?_
      obtain rfl := Option.some.inj e
      exact z_iret E M dX5_judgeLicence_27 rfl rfl rfl rfl (by decide) (by decide)
  · refine z_if_eqF (tgt := 10) E dX5_judgeLicence_4 rfl c3 ?_
    refine z_bipush E dX5_judgeLicence_7 bp_8 ?_
    obtain rfl := Option.some.inj e
    exact z_iret E M dX5_judgeLicence_9 rfl rfl rfl rfl (by decide) (by decide)
theorem c_X5_judgeLicence {l : Launch} (hl : l.stackTraces = false) {h : PH} {a0 : Nat} {r : Int32} (e : f_X5_judgeLicence h a0 = some r) : CMet l yX5_judgeLicence (z_W yX5_judgeLicence cX5_judgeLicence 1 (some .int)) rmX5_judgeLicence h [.ref a0] (.inr (some (.int r))) h :=
  z_met hl Y_X5_judgeLicence (by decide +kernel) (Nat.le_of_ble_eq_true rfl) (fun X hX E T0 M => b_X5_judgeLicence E T0 e M)
abbrev rmX5_judge : Room := { frames := 4, cells := 0, slots := 0, locals := 82 }
noncomputable def f_X5_judge (h : PH) (a0 : Nat) (a1 : Int32) (a2 : Int32) (a3 : Int32) (a4 : Int32) : Option Int32 :=
  if a1.toInt < 0 ∨ 11 < a1.toInt then
    some (-1 : Int32)
  else if a1 = (0 : Int32) then
    (f_X5_judgeNote h a0 a2 a3).bind fun p3 =>
    some p3
  else if a1 = (1 : Int32) then
    (f_X5_judgeCitation h a0 a2 a3 (0 : Int32)).bind fun p6 =>
    some p6
  else if a1 = (2 : Int32) then
    (f_X5_judgeCitation h a0 a2 a3 (1 : Int32)).bind fun p9 =>
    some p9
  else if a1 = (3 : Int32) then
    if (f_X9_isPage a2) = false then
      some (-1 : Int32)
    else
      if (f_X9_isBetween a3 (-1 : Int32) (1 : Int32)) = false then
        some (-1 : Int32)
      else
        some (0 : Int32)
  else if a1 = (4 : Int32) then
    (f_X5_judgeNet h a0 a2 a3 a4).bind fun p15 =>
    some p15
  else if a1 = (5 : Int32) then
    (gd h a0 9).bind fun _ =>
    (f_X7_hasNet h a0 a2).bind fun p19 =>
    if p19 = false then
      some (-3 : Int32)
    else
      some (0 : Int32)
  else if a1 = (6 : Int32) then
    (f_X5_judgeHaul h a0 a2).bind fun p23 =>
    some p23
  else if a1 = (7 : Int32) then
    if (f_X9_isPage a2) = false then
      some (-1 : Int32)
    else
      if (f_X9_isBetween a3 (0 : Int32) (99 : Int32)) = false then
        some (-1 : Int32)
      else
        some (0 : Int32)
  else if a1 = (8 : Int32) then
    (gd h a0 9).bind fun _ =>
    (f_X7_count h a0 (104 : Int32)).bind fun p30 =>
    if ¬ p30 = 0 then
      some (0 : Int32)
    else
      some (7 : Int32)
  else if a1 = (9 : Int32) then
    (f_X5_judgeFree h a0 a2).bind fun p34 =>
    some p34
  else if a1 = (10 : Int32) then
    (f_X5_judgeLicence h a0).bind fun p37 =>
    some p37
  else if a1 = (11 : Int32) then
    if (f_X9_isBetween a2 (1 : Int32) (40 : Int32)) = false then
      some (-1 : Int32)
    else
      some (0 : Int32)
  else none
theorem b_X5_judge {X : PX} (E : z_E X cX5_judge RX5 "judge" 5 rmX5_judge (some .int)) (T0 : z_T0 X) {h : PH} {a0 : Nat} {a1 : Int32} {a2 : Int32} {a3 : Int32} {a4 : Int32} {r : Int32} (e : f_X5_judge h a0 a1 a2 a3 a4 = some r) (M : z_M X rmX5_judge.cells rmX5_judge.slots (.inr (some (.int r))) h) : WP X 5 0 0 0 [(0, .ref a0), (1, .int a1), (2, .int a2), (3, .int a3), (4, .int a4)] [] h := by
  unfold f_X5_judge at e
  refine z_iload_n E 1 dX5_judge_0 rfl ?_
  rcases oi e with ⟨c1, e⟩ | ⟨c1, e⟩
  · refine z_tableOut (tgt := 205) E dX5_judge_1 c1 rfl ?_
    refine z_iconst E dX5_judge_205 ic_m1 ?_
    obtain rfl := Option.some.inj e
    exact z_iret E M dX5_judge_206 rfl rfl rfl rfl (by decide) (by decide)
  have c12 := z_sw c1
  rcases oi e with ⟨c41, e⟩ | ⟨c41, e⟩
  · refine z_tableIn (tgt := 64) E dX5_judge_1 c12.1 c12.2 (by rw [c41]; rfl) rfl ?_
    refine z_aload_n E 0 dX5_judge_64 rfl ?_
    refine z_iload_n E 2 dX5_judge_65 rfl ?_
    refine z_iload_n E 3 dX5_judge_66 rfl ?_
    obtain ⟨p42, e43, e⟩ := ob e
    refine z_kR2 (st := []) (av := [.ref a0, .int a2, .int a3]) E 0 0 (z_rS (st := []) (av := [.ref a0, .int a2, .int a3]) E Y_X5_judgeNote k_X5_9 (c_X5_judgeNote (z_El E) e43) dX5_judge_67 rfl rfl (by decide) (by decide) (by decide) (by decide) (Nat.zero_le _)) rfl rfl rfl ?_
    obtain rfl := Option.some.inj e
    exact z_iret E M dX5_judge_70 rfl rfl rfl rfl (by decide) (by decide)
  rcases oi e with ⟨c44, e⟩ | ⟨c44, e⟩
  · refine z_tableIn (tgt := 71) E dX5_judge_1 c12.1 c12.2 (by rw [c44]; rfl) rfl ?_
    refine z_aload_n E 0 dX5_judge_71 rfl ?_
    refine z_iload_n E 2 dX5_judge_72 rfl ?_
    refine z_iload_n E 3 dX5_judge_73 rfl ?_
    refine z_iconst E dX5_judge_74 ic_0 ?_
    obtain ⟨p45, e46, e⟩ := ob e
    refine z_kR2 (st := []) (av := [.ref a0, .int a2, .int a3, .int (0 : Int32)]) E 0 0 (z_rS (st := []) (av := [.ref a0, .int a2, .int a3, .int (0 : Int32)]) E Y_X5_judgeCitation k_X5_15 (c_X5_judgeCitation (z_El E) e46) dX5_judge_75 rfl rfl (by decide) (by decide) (by decide) (by decide) (Nat.zero_le _)) rfl rfl rfl ?_
    obtain rfl := Option.some.inj e
    exact z_iret E M dX5_judge_78 rfl rfl rfl rfl (by decide) (by decide)
  rcases oi e with ⟨c47, e⟩ | ⟨c47, e⟩
  · refine z_tableIn (tgt := 79) E dX5_judge_1 c12.1 c12.2 (by rw [c47]; rfl) rfl ?_
    refine z_aload_n E 0 dX5_judge_79 rfl ?_
    refine z_iload_n E 2 dX5_judge_80 rfl ?_
    refine z_iload_n E 3 dX5_judge_81 rfl ?_
    refine z_iconst E dX5_judge_82 ic_1 ?_
    obtain ⟨p48, e49, e⟩ := ob e
    refine z_kR2 (st := []) (av := [.ref a0, .int a2, .int a3, .int (1 : Int32)]) E 0 0 (z_rS (st := []) (av := [.ref a0, .int a2, .int a3, .int (1 : Int32)]) E Y_X5_judgeCitation k_X5_15 (c_X5_judgeCitation (z_El E) e49) dX5_judge_83 rfl rfl (by decide) (by decide) (by decide) (by decide) (Nat.zero_le _)) rfl rfl rfl ?_
    obtain rfl := Option.some.inj e
    exact z_iret E M dX5_judge_86 rfl rfl rfl rfl (by decide) (by decide)
  rcases oi e with ⟨c50, e⟩ | ⟨c50, e⟩
  · refine z_tableIn (tgt := 87) E dX5_judge_1 c12.1 c12.2 (by rw [c50]; rfl) rfl ?_
    refine z_iload_n E 2 dX5_judge_87 rfl ?_
    refine z_kR2 (st := []) (av := [.int a2]) E 0 0 (z_rSN (st := []) (av := [.int a2]) E Y_X9_isPage k_X5_19 (c_X9_isPage (l := z_l X) (h := h) (z_El E) a2) dX5_judge_88 rfl rfl (by decide) (by decide) (by decide) (by decide) (Nat.zero_le _)) rfl rfl rfl ?_
    rcases oi e with ⟨c51, e⟩ | ⟨c51, e⟩
    · refine z_if_eqT (tgt := 107) E dX5_judge_91 rfl (zb_f c51) ?_
      refine z_iconst E dX5_judge_107 ic_m1 ?_
      obtain rfl := Option.some.inj e
      exact z_iret E M dX5_judge_108 rfl rfl rfl rfl (by decide) (by decide)
    · refine z_if_eqF (tgt := 107) E dX5_judge_91 rfl (zb_nf c51) ?_
      refine z_iload_n E 3 dX5_judge_94 rfl ?_
      refine z_iconst E dX5_judge_95 ic_m1 ?_
      refine z_iconst E dX5_judge_96 ic_1 ?_
      refine z_kR2 (st := []) (av := [.int a3, .int (-1 : Int32), .int (1 : Int32)]) E 0 0 (z_rSN (st := []) (av := [.int a3, .int (-1 : Int32), .int (1 : Int32)]) E Y_X9_isBetween k_X5_23 (c_X9_isBetween (l := z_l X) (h := h) (z_El E) a3 (-1 : Int32) (1 : Int32)) dX5_judge_97 rfl rfl (by decide) (by decide) (by decide) (by decide) (Nat.zero_le _)) rfl rfl rfl ?_
      rcases oi e with ⟨c52, e⟩ | ⟨c52, e⟩
      · refine z_if_eqT (tgt := 107) E dX5_judge_100 rfl (zb_f c52) ?_
        refine z_iconst E dX5_judge_107 ic_m1 ?_
        obtain rfl := Option.some.inj e
        exact z_iret E M dX5_judge_108 rfl rfl rfl rfl (by decide) (by decide)
      · refine z_if_eqF (tgt := 107) E dX5_judge_100 rfl (zb_nf c52) ?_
        refine z_iconst E dX5_judge_103 ic_0 ?_
        refine z_goto (tgt := 108) E dX5_judge_104 rfl ?_
        obtain rfl := Option.some.inj e
        exact z_iret E M dX5_judge_108 rfl rfl rfl rfl (by decide) (by decide)
  rcases oi e with ⟨c53, e⟩ | ⟨c53, e⟩
  · refine z_tableIn (tgt := 109) E dX5_judge_1 c12.1 c12.2 (by rw [c53]; rfl) rfl ?_
    refine z_aload_n E 0 dX5_judge_109 rfl ?_
    refine z_iload_n E 2 dX5_judge_110 rfl ?_
    refine z_iload_n E 3 dX5_judge_111 rfl ?_
    refine z_iload E 4 dX5_judge_112 rfl ?_
    obtain ⟨p54, e55, e⟩ := ob e
    refine z_kR2 (st := []) (av := [.ref a0, .int a2, .int a3, .int a4]) E 0 0 (z_rS (st := []) (av := [.ref a0, .int a2, .int a3, .int a4]) E Y_X5_judgeNet k_X5_27 (c_X5_judgeNet (z_El E) e55) dX5_judge_114 rfl rfl (by decide) (by decide) (by decide) (by decide) (Nat.zero_le _)) rfl rfl rfl ?_
    obtain rfl := Option.some.inj e
    exact z_iret E M dX5_judge_117 rfl rfl rfl rfl (by decide) (by decide)
  rcases oi e with ⟨c56, e⟩ | ⟨c56, e⟩
  · refine z_tableIn (tgt := 118) E dX5_judge_1 c12.1 c12.2 (by rw [c56]; rfl) rfl ?_
    refine z_aload_n E 0 dX5_judge_118 rfl ?_
    refine z_iload_n E 2 dX5_judge_119 rfl ?_
    obtain ⟨_, e57, e⟩ := ob e
    obtain ⟨p58, e59, e⟩ := ob e
    refine z_kR2 (st := []) (av := [.ref a0, .int a2]) E 0 0 (z_rV (st := []) (av := [.int a2]) E Y_X7_hasNet k_X5_31 (ci := 9) rfl (c_X7_hasNet (z_El E) e59) dX5_judge_120 e57 rfl rfl (by decide) (by decide) (by decide) (by decide) (Nat.zero_le _)) rfl rfl rfl ?_
    rcases oi e with ⟨c60, e⟩ | ⟨c60, e⟩
    · refine z_if_eqT (tgt := 130) E dX5_judge_123 rfl (zb_f c60) ?_
      refine z_bipush E dX5_judge_130 bp_m3 ?_
      obtain rfl := Option.some.inj e
      exact z_iret E M dX5_judge_132 rfl rfl rfl rfl (by decide) (by decide)
    · refine z_if_eqF (tgt := 130) E dX5_judge_123 rfl (zb_nf c60) ?_
      refine z_iconst E dX5_judge_126 ic_0 ?_
      refine z_goto (tgt := 132) E dX5_judge_127 rfl ?_
      obtain rfl := Option.some.inj e
      exact z_iret E M dX5_judge_132 rfl rfl rfl rfl (by decide) (by decide)
  rcases oi e with ⟨c61, e⟩ | ⟨c61, e⟩
  · refine z_tableIn (tgt := 133) E dX5_judge_1 c12.1 c12.2 (by rw [c61]; rfl) rfl ?_
    refine z_aload_n E 0 dX5_judge_133 rfl ?_
    refine z_iload_n E 2 dX5_judge_134 rfl ?_
    obtain ⟨p62, e63, e⟩ := ob e
    refine z_kR2 (st := []) (av := [.ref a0, .int a2]) E 0 0 (z_rS (st := []) (av := [.ref a0, .int a2]) E Y_X5_judgeHaul k_X5_36 (c_X5_judgeHaul (z_El E) e63) dX5_judge_135 rfl rfl (by decide) (by decide) (by decide) (by decide) (Nat.zero_le _)) rfl rfl rfl ?_
    obtain rfl := Option.some.inj e
    exact z_iret E M dX5_judge_138 rfl rfl rfl rfl (by decide) (by decide)
  rcases oi e with ⟨c64, e⟩ | ⟨c64, e⟩
  · refine z_tableIn (tgt := 139) E dX5_judge_1 c12.1 c12.2 (by rw [c64]; rfl) rfl ?_
    refine z_iload_n E 2 dX5_judge_139 rfl ?_
    refine z_kR2 (st := []) (av := [.int a2]) E 0 0 (z_rSN (st := []) (av := [.int a2]) E Y_X9_isPage k_X5_19 (c_X9_isPage (l := z_l X) (h := h) (z_El E) a2) dX5_judge_140 rfl rfl (by decide) (by decide) (by decide) (by decide) (Nat.zero_le _)) rfl rfl rfl ?_
    rcases oi e with ⟨c65, e⟩ | ⟨c65, e⟩
    · refine z_if_eqT (tgt := 160) E dX5_judge_143 rfl (zb_f c65) ?_
      refine z_iconst E dX5_judge_160 ic_m1 ?_
      obtain rfl := Option.some.inj e
      exact z_iret E M dX5_judge_161 rfl rfl rfl rfl (by decide) (by decide)
    · refine z_if_eqF (tgt := 160) E dX5_judge_143 rfl (zb_nf c65) ?_
      refine z_iload_n E 3 dX5_judge_146 rfl ?_
      refine z_iconst E dX5_judge_147 ic_0 ?_
      refine z_bipush E dX5_judge_148 bp_99 ?_
      refine z_kR2 (st := []) (av := [.int a3, .int (0 : Int32), .int (99 : Int32)]) E 0 0 (z_rSN (st := []) (av := [.int a3, .int (0 : Int32), .int (99 : Int32)]) E Y_X9_isBetween k_X5_23 (c_X9_isBetween (l := z_l X) (h := h) (z_El E) a3 (0 : Int32) (99 : Int32)) dX5_judge_150 rfl rfl (by decide) (by decide) (by decide) (by decide) (Nat.zero_le _)) rfl rfl rfl ?_
      rcases oi e with ⟨c66, e⟩ | ⟨c66, e⟩
      · refine z_if_eqT (tgt := 160) E dX5_judge_153 rfl (zb_f c66) ?_
        refine z_iconst E dX5_judge_160 ic_m1 ?_
        obtain rfl := Option.some.inj e
        exact z_iret E M dX5_judge_161 rfl rfl rfl rfl (by decide) (by decide)
      · refine z_if_eqF (tgt := 160) E dX5_judge_153 rfl (zb_nf c66) ?_
        refine z_iconst E dX5_judge_156 ic_0 ?_
        refine z_goto (tgt := 161) E dX5_judge_157 rfl ?_
        obtain rfl := Option.some.inj e
        exact z_iret E M dX5_judge_161 rfl rfl rfl rfl (by decide) (by decide)
  rcases oi e with ⟨c67, e⟩ | ⟨c67, e⟩
  · refine z_tableIn (tgt := 162) E dX5_judge_1 c12.1 c12.2 (by rw [c67]; rfl) rfl ?_
    refine z_aload_n E 0 dX5_judge_162 rfl ?_
    refine z_bipush E dX5_judge_163 bp_104 ?_
    obtain ⟨_, e68, e⟩ := ob e
    obtain ⟨p69, e70, e⟩ := ob e
    refine z_kR2 (st := []) (av := [.ref a0, .int (104 : Int32)]) E 0 0 (z_rV (st := []) (av := [.int (104 : Int32)]) E Y_X7_count k_X5_40 (ci := 9) rfl (c_X7_count (z_El E) e70) dX5_judge_165 e68 rfl rfl (by decide) (by decide) (by decide) (by decide) (Nat.zero_le _)) rfl rfl rfl ?_
    rcases oi e with ⟨c71, e⟩ | ⟨c71, e⟩
    · refine z_if_neT (tgt := 176) E dX5_judge_168 rfl c71 ?_
      refine z_iconst E dX5_judge_176 ic_0 ?_
      obtain rfl := Option.some.inj e
      exact z_iret E M dX5_judge_177 rfl rfl rfl rfl (by decide) (by decide)
    · refine z_if_neF (tgt := 176) E dX5_judge_168 rfl (Classical.not_not.mp c71) ?_
      refine z_bipush E dX5_judge_171 bp_7 ?_
      refine z_goto (tgt := 177) E dX5_judge_173 rfl ?_
      obtain rfl := Option.some.inj e
      exact z_iret E M dX5_judge_177 rfl rfl rfl rfl (by decide) (by decide)
  rcases oi e with ⟨c72, e⟩ | ⟨c72, e⟩
  · refine z_tableIn (tgt := 178) E dX5_judge_1 c12.1 c12.2 (by rw [c72]; rfl) rfl ?_
    refine z_aload_n E 0 dX5_judge_178 rfl ?_
    refine z_iload_n E 2 dX5_judge_179 rfl ?_
    obtain ⟨p73, e74, e⟩ := ob e
    refine z_kR2 (st := []) (av := [.ref a0, .int a2]) E 0 0 (z_rS (st := []) (av := [.ref a0, .int a2]) E Y_X5_judgeFree k_X5_44 (c_X5_judgeFree (z_El E) e74) dX5_judge_180 rfl rfl (by decide) (by decide) (by decide) (by decide) (Nat.zero_le _)) rfl rfl rfl ?_
    obtain rfl := Option.some.inj e
    exact z_iret E M dX5_judge_183 rfl rfl rfl rfl (by decide) (by decide)
  rcases oi e with ⟨c75, e⟩ | ⟨c75, e⟩
  · refine z_tableIn (tgt := 184) E dX5_judge_1 c12.1 c12.2 (by rw [c75]; rfl) rfl ?_
    refine z_aload_n E 0 dX5_judge_184 rfl ?_
    obtain ⟨p76, e77, e⟩ := ob e
    refine z_kR2 (st := []) (av := [.ref a0]) E 0 0 (z_rS (st := []) (av := [.ref a0]) E Y_X5_judgeLicence k_X5_47 (c_X5_judgeLicence (z_El E) e77) dX5_judge_185 rfl rfl (by decide) (by decide) (by decide) (by decide) (Nat.zero_le _)) rfl rfl rfl ?_
    obtain rfl := Option.some.inj e
    exact z_iret E M dX5_judge_188 rfl rfl rfl rfl (by decide) (by decide)
  rcases oi e with ⟨c78, e⟩ | ⟨c78, e⟩
  · refine z_tableIn (tgt := 189) E dX5_judge_1 c12.1 c12.2 (by rw [c78]; rfl) rfl ?_
    refine z_iload_n E 2 dX5_judge_189 rfl ?_
    refine z_iconst E dX5_judge_190 ic_1 ?_
    refine z_bipush E dX5_judge_191 bp_40 ?_
    refine z_kR2 (st := []) (av := [.int a2, .int (1 : Int32), .int (40 : Int32)]) E 0 0 (z_rSN (st := []) (av := [.int a2, .int (1 : Int32), .int (40 : Int32)]) E Y_X9_isBetween k_X5_23 (c_X9_isBetween (l := z_l X) (h := h) (z_El E) a2 (1 : Int32) (40 : Int32)) dX5_judge_193 rfl rfl (by decide) (by decide) (by decide) (by decide) (Nat.zero_le _)) rfl rfl rfl ?_
    rcases oi e with ⟨c79, e⟩ | ⟨c79, e⟩
    · refine z_if_eqT (tgt := 203) E dX5_judge_196 rfl (zb_f c79) ?_
      refine z_iconst E dX5_judge_203 ic_m1 ?_
      obtain rfl := Option.some.inj e
      exact z_iret E M dX5_judge_204 rfl rfl rfl rfl (by decide) (by decide)
    · refine z_if_eqF (tgt := 203) E dX5_judge_196 rfl (zb_nf c79) ?_
      refine z_iconst E dX5_judge_199 ic_0 ?_
      refine z_goto (tgt := 204) E dX5_judge_200 rfl ?_
      obtain rfl := Option.some.inj e
      exact z_iret E M dX5_judge_204 rfl rfl rfl rfl (by decide) (by decide)
  cases e
theorem c_X5_judge {l : Launch} (hl : l.stackTraces = false) {h : PH} {a0 : Nat} {a1 : Int32} {a2 : Int32} {a3 : Int32} {a4 : Int32} {r : Int32} (e : f_X5_judge h a0 a1 a2 a3 a4 = some r) : CMet l yX5_judge (z_W yX5_judge cX5_judge 5 (some .int)) rmX5_judge h [.ref a0, .int a1, .int a2, .int a3, .int a4] (.inr (some (.int r))) h :=
  z_met hl Y_X5_judge (by decide +kernel) (Nat.le_of_ble_eq_true rfl) (fun X hX E T0 M => b_X5_judge E T0 e M)
abbrev rmX7_countCitedFrom : Room := { frames := 1, cells := 0, slots := 0, locals := 20 }
noncomputable def f_X7_countCitedFrom (h : PH) (a0 : Nat) (a1 : Int32) : Option Int32 :=
  (rdR h a0 9 4).bind fun x1 =>
  (alI .int h x1 a1).bind fun x3 =>
  some (f_J6_bitCount_0f7a4 x3)
theorem b_X7_countCitedFrom {X : PX} (E : z_E X cX7_countCitedFrom RX7 "countCitedFrom" 2 rmX7_countCitedFrom (some .int)) (T0 : z_T0 X) {h : PH} {a0 : Nat} {a1 : Int32} {r : Int32} (e : f_X7_countCitedFrom h a0 a1 = some r) (M : z_M X rmX7_countCitedFrom.cells rmX7_countCitedFrom.slots (.inr (some (.int r))) h) : WP X 2 0 0 0 [(0, .ref a0), (1, .int a1)] [] h := by
  unfold f_X7_countCitedFrom at e
  refine z_aload_n E 0 dX7_countCitedFrom_0 rfl ?_
  obtain ⟨x1, e2, e⟩ := ob e
  refine z_getR E fl_X7_22 dX7_countCitedFrom_1 e2 ?_
  refine z_iload_n E 1 dX7_countCitedFrom_4 rfl ?_
  obtain ⟨x3, e4, e⟩ := ob e
  refine z_iald E dX7_countCitedFrom_5 e4 ?_
  refine z_kR2 (st := []) (av := [.int x3]) E 0 0 (z_rS (st := []) (av := [.int x3]) E Y_J6_bitCount_0f7a4 k_X7_99 (c_J6_bitCount_0f7a4 (l := z_l X) (h := h) (z_El E) x3) dX7_countCitedFrom_6 rfl rfl (by decide) (by decide) (by decide) (by decide) (Nat.zero_le _)) rfl rfl rfl ?_
  obtain rfl := Option.some.inj e
  exact z_iret E M dX7_countCitedFrom_9 rfl rfl rfl rfl (by decide) (by decide)
theorem c_X7_countCitedFrom {l : Launch} (hl : l.stackTraces = false) {h : PH} {a0 : Nat} {a1 : Int32} {r : Int32} (e : f_X7_countCitedFrom h a0 a1 = some r) : CMet l yX7_countCitedFrom (z_W yX7_countCitedFrom cX7_countCitedFrom 2 (some .int)) rmX7_countCitedFrom h [.ref a0, .int a1] (.inr (some (.int r))) h :=
  z_met hl Y_X7_countCitedFrom (by decide +kernel) (Nat.le_of_ble_eq_true rfl) (fun X hX E T0 M => b_X7_countCitedFrom E T0 e M)
abbrev rmX5_detailOf : Room := { frames := 3, cells := 0, slots := 0, locals := 64 }
noncomputable def f_X5_detailOf (h : PH) (a0 : Nat) (a1 : Int32) (a2 : Int32) (a3 : Int32) : Option Int32 :=
  if a1.toInt < 1 ∨ 8 < a1.toInt then
    some (0 : Int32)
  else if a1 = (1 : Int32) then
    if ¬ a2 = 0 then
      some (5 : Int32)
    else
      some (10 : Int32)
  else if a1 = (2 : Int32) then
    (gd h a0 9).bind fun _ =>
    (f_X7_presentSeason h a0).bind fun p6 =>
    some p6
  else if a1 = (3 : Int32) then
    (gd h a0 9).bind fun _ =>
    (f_X7_hasNet h a0 a3).bind fun p10 =>
    if p10 = false then
      some (0 : Int32)
    else
      (rdR h a0 9 11).bind fun x13 =>
      (alI .int h x13 a3).bind fun x15 =>
      some x15
  else if a1 = (4 : Int32) then
    some a3
  else if a1 = (5 : Int32) then
    (gd h a0 9).bind fun _ =>
    (f_X7_hasNote h a0 a3).bind fun p20 =>
    if p20 = false then
      some (0 : Int32)
    else
      (gd h a0 9).bind fun _ =>
      (f_X7_countCitedFrom h a0 a3).bind fun p24 =>
      some p24
  else if a1 = (6 : Int32) then
    (gd h a0 9).bind fun _ =>
    (f_X7_licencePrice h a0).bind fun p28 =>
    (rdI h a0 9 14).bind fun x30 =>
    some (p28 - x30)
  else if a1 = (7 : Int32) then
    (gd h a0 9).bind fun _ =>
    (f_X7_count h a0 (102 : Int32)).bind fun p34 =>
    some p34
  else if a1 = (8 : Int32) then
    (gd h a0 9).bind fun _ =>
    (f_X7_presentSeason h a0).bind fun p38 =>
    some p38
  else none
theorem b_X5_detailOf {X : PX} (E : z_E X cX5_detailOf RX5 "detailOf" 4 rmX5_detailOf (some .int)) (T0 : z_T0 X) {h : PH} {a0 : Nat} {a1 : Int32} {a2 : Int32} {a3 : Int32} {r : Int32} (e : f_X5_detailOf h a0 a1 a2 a3 = some r) (M : z_M X rmX5_detailOf.cells rmX5_detailOf.slots (.inr (some (.int r))) h) : WP X 4 0 0 0 [(0, .ref a0), (1, .int a1), (2, .int a2), (3, .int a3)] [] h := by
  unfold f_X5_detailOf at e
  refine z_iload_n E 1 dX5_detailOf_0 rfl ?_
  rcases oi e with ⟨c1, e⟩ | ⟨c1, e⟩
  · refine z_tableOut (tgt := 120) E dX5_detailOf_1 c1 rfl ?_
    refine z_iconst E dX5_detailOf_120 ic_0 ?_
    obtain rfl := Option.some.inj e
    exact z_iret E M dX5_detailOf_121 rfl rfl rfl rfl (by decide) (by decide)
  have c12 := z_sw c1
  rcases oi e with ⟨c40, e⟩ | ⟨c40, e⟩
  · refine z_tableIn (tgt := 48) E dX5_detailOf_1 c12.1 c12.2 (by rw [c40]; rfl) rfl ?_
    refine z_iload_n E 2 dX5_detailOf_48 rfl ?_
    rcases oi e with ⟨c41, e⟩ | ⟨c41, e⟩
    · refine z_if_neT (tgt := 57) E dX5_detailOf_49 rfl c41 ?_
      refine z_iconst E dX5_detailOf_57 ic_5 ?_
      obtain rfl := Option.some.inj e
      exact z_iret E M dX5_detailOf_58 rfl rfl rfl rfl (by decide) (by decide)
    · refine z_if_neF (tgt := 57) E dX5_detailOf_49 rfl (Classical.not_not.mp c41) ?_
      refine z_bipush E dX5_detailOf_52 bp_10 ?_
      refine z_goto (tgt := 58) E dX5_detailOf_54 rfl ?_
      obtain rfl := Option.some.inj e
      exact z_iret E M dX5_detailOf_58 rfl rfl rfl rfl (by decide) (by decide)
  rcases oi e with ⟨c42, e⟩ | ⟨c42, e⟩
  · refine z_tableIn (tgt := 59) E dX5_detailOf_1 c12.1 c12.2 (by rw [c42]; rfl) rfl ?_
    refine z_aload_n E 0 dX5_detailOf_59 rfl ?_
    obtain ⟨_, e43, e⟩ := ob e
    obtain ⟨p44, e45, e⟩ := ob e
    refine z_kR2 (st := []) (av := [.ref a0]) E 0 0 (z_rV (st := []) (av := []) E Y_X7_presentSeason k_X5_73 (ci := 9) rfl (c_X7_presentSeason (z_El E) e45) dX5_detailOf_60 e43 rfl rfl (by decide) (by decide) (by decide) (by decide) (Nat.zero_le _)) rfl rfl rfl ?_
    obtain rfl := Option.some.inj e
    exact z_iret E M dX5_detailOf_63 rfl rfl rfl rfl (by decide) (by decide)
  rcases oi e with ⟨c46, e⟩ | ⟨c46, e⟩
  · refine z_tableIn (tgt := 64) E dX5_detailOf_1 c12.1 c12.2 (by rw [c46]; rfl) rfl ?_
    refine z_aload_n E 0 dX5_detailOf_64 rfl ?_
    refine z_iload_n E 3 dX5_detailOf_65 rfl ?_
    obtain ⟨_, e47, e⟩ := ob e
    obtain ⟨p48, e49, e⟩ := ob e
    refine z_kR2 (st := []) (av := [.ref a0, .int a3]) E 0 0 (z_rV (st := []) (av := [.int a3]) E Y_X7_hasNet k_X5_31 (ci := 9) rfl (c_X7_hasNet (z_El E) e49) dX5_detailOf_66 e47 rfl rfl (by decide) (by decide) (by decide) (by decide) (Nat.zero_le _)) rfl rfl rfl ?_
    rcases oi e with ⟨c50, e⟩ | ⟨c50, e⟩
    · refine z_if_eqT (tgt := 81) E dX5_detailOf_69 rfl (zb_f c50) ?_
      refine z_iconst E dX5_detailOf_81 ic_0 ?_
      obtain rfl := Option.some.inj e
      exact z_iret E M dX5_detailOf_82 rfl rfl rfl rfl (by decide) (by decide)
    · refine z_if_eqF (tgt := 81) E dX5_detailOf_69 rfl (zb_nf c50) ?_
      refine z_aload_n E 0 dX5_detailOf_72 rfl ?_
      obtain ⟨x51, e52, e⟩ := ob e
      refine z_getR E fl_X5_77 dX5_detailOf_73 e52 ?_
      refine z_iload_n E 3 dX5_detailOf_76 rfl ?_
      obtain ⟨x53, e54, e⟩ := ob e
      refine z_iald E dX5_detailOf_77 e54 ?_
      refine z_goto (tgt := 82) E dX5_detailOf_78 rfl ?_
      obtain rfl := Option.some.inj e
      exact z_iret E M dX5_detailOf_82 rfl rfl rfl rfl (by decide) (by decide)
  rcases oi e with ⟨c55, e⟩ | ⟨c55, e⟩
  · refine z_tableIn (tgt := 83) E dX5_detailOf_1 c12.1 c12.2 (by rw [c55]; rfl) rfl ?_
    refine z_iload_n E 3 dX5_detailOf_83 rfl ?_
    obtain rfl := Option.some.inj e
    exact z_iret E M dX5_detailOf_84 rfl rfl rfl rfl (by decide) (by decide)
  rcases oi e with ⟨c56, e⟩ | ⟨c56, e⟩
  · refine z_tableIn (tgt := 85) E dX5_detailOf_1 c12.1 c12.2 (by rw [c56]; rfl) rfl ?_
    refine z_aload_n E 0 dX5_detailOf_85 rfl ?_
    refine z_iload_n E 3 dX5_detailOf_86 rfl ?_
    obtain ⟨_, e57, e⟩ := ob e
    obtain ⟨p58, e59, e⟩ := ob e
    refine z_kR2 (st := []) (av := [.ref a0, .int a3]) E 0 0 (z_rV (st := []) (av := [.int a3]) E Y_X7_hasNote k_X5_55 (ci := 9) rfl (c_X7_hasNote (z_El E) e59) dX5_detailOf_87 e57 rfl rfl (by decide) (by decide) (by decide) (by decide) (Nat.zero_le _)) rfl rfl rfl ?_
    rcases oi e with ⟨c60, e⟩ | ⟨c60, e⟩
    · refine z_if_eqT (tgt := 101) E dX5_detailOf_90 rfl (zb_f c60) ?_
      refine z_iconst E dX5_detailOf_101 ic_0 ?_
      obtain rfl := Option.some.inj e
      exact z_iret E M dX5_detailOf_102 rfl rfl rfl rfl (by decide) (by decide)
    · refine z_if_eqF (tgt := 101) E dX5_detailOf_90 rfl (zb_nf c60) ?_
      refine z_aload_n E 0 dX5_detailOf_93 rfl ?_
      refine z_iload_n E 3 dX5_detailOf_94 rfl ?_
      obtain ⟨_, e61, e⟩ := ob e
      obtain ⟨p62, e63, e⟩ := ob e
      refine z_kR2 (st := []) (av := [.ref a0, .int a3]) E 0 0 (z_rV (st := []) (av := [.int a3]) E Y_X7_countCitedFrom k_X5_90 (ci := 9) rfl (c_X7_countCitedFrom (z_El E) e63) dX5_detailOf_95 e61 rfl rfl (by decide) (by decide) (by decide) (by decide) (Nat.zero_le _)) rfl rfl rfl ?_
      refine z_goto (tgt := 102) E dX5_detailOf_98 rfl ?_
      obtain rfl := Option.some.inj e
      exact z_iret E M dX5_detailOf_102 rfl rfl rfl rfl (by decide) (by decide)
  rcases oi e with ⟨c64, e⟩ | ⟨c64, e⟩
  · refine z_tableIn (tgt := 103) E dX5_detailOf_1 c12.1 c12.2 (by rw [c64]; rfl) rfl ?_
    refine z_aload_n E 0 dX5_detailOf_103 rfl ?_
    obtain ⟨_, e65, e⟩ := ob e
    obtain ⟨p66, e67, e⟩ := ob e
    refine z_kR2 (st := []) (av := [.ref a0]) E 0 0 (z_rV (st := []) (av := []) E Y_X7_licencePrice k_X5_87 (ci := 9) rfl (c_X7_licencePrice (z_El E) e67) dX5_detailOf_104 e65 rfl rfl (by decide) (by decide) (by decide) (by decide) (Nat.zero_le _)) rfl rfl rfl ?_
    refine z_aload_n E 0 dX5_detailOf_107 rfl ?_
    obtain ⟨x68, e69, e⟩ := ob e
    refine z_getI E fl_X5_84 dX5_detailOf_108 e69 ?_
    refine z_isub E dX5_detailOf_111 ?_
    obtain rfl := Option.some.inj e
    exact z_iret E M dX5_detailOf_112 rfl rfl rfl rfl (by decide) (by decide)
  rcases oi e with ⟨c70, e⟩ | ⟨c70, e⟩
  · refine z_tableIn (tgt := 113) E dX5_detailOf_1 c12.1 c12.2 (by rw [c70]; rfl) rfl ?_
    refine z_aload_n E 0 dX5_detailOf_113 rfl ?_
    refine z_bipush E dX5_detailOf_114 bp_102 ?_
    obtain ⟨_, e71, e⟩ := ob e
    obtain ⟨p72, e73, e⟩ := ob e
    refine z_kR2 (st := []) (av := [.ref a0, .int (102 : Int32)]) E 0 0 (z_rV (st := []) (av := [.int (102 : Int32)]) E Y_X7_count k_X5_40 (ci := 9) rfl (c_X7_count (z_El E) e73) dX5_detailOf_116 e71 rfl rfl (by decide) (by decide) (by decide) (by decide) (Nat.zero_le _)) rfl rfl rfl ?_
    obtain rfl := Option.some.inj e
    exact z_iret E M dX5_detailOf_119 rfl rfl rfl rfl (by decide) (by decide)
  rcases oi e with ⟨c74, e⟩ | ⟨c74, e⟩
  · refine z_tableIn (tgt := 59) E dX5_detailOf_1 c12.1 c12.2 (by rw [c74]; rfl) rfl ?_
    refine z_aload_n E 0 dX5_detailOf_59 rfl ?_
    obtain ⟨_, e75, e⟩ := ob e
    obtain ⟨p76, e77, e⟩ := ob e
    refine z_kR2 (st := []) (av := [.ref a0]) E 0 0 (z_rV (st := []) (av := []) E Y_X7_presentSeason k_X5_73 (ci := 9) rfl (c_X7_presentSeason (z_El E) e77) dX5_detailOf_60 e75 rfl rfl (by decide) (by decide) (by decide) (by decide) (Nat.zero_le _)) rfl rfl rfl ?_
    obtain rfl := Option.some.inj e
    exact z_iret E M dX5_detailOf_63 rfl rfl rfl rfl (by decide) (by decide)
  cases e
theorem c_X5_detailOf {l : Launch} (hl : l.stackTraces = false) {h : PH} {a0 : Nat} {a1 : Int32} {a2 : Int32} {a3 : Int32} {r : Int32} (e : f_X5_detailOf h a0 a1 a2 a3 = some r) : CMet l yX5_detailOf (z_W yX5_detailOf cX5_detailOf 4 (some .int)) rmX5_detailOf h [.ref a0, .int a1, .int a2, .int a3] (.inr (some (.int r))) h :=
  z_met hl Y_X5_detailOf (by decide +kernel) (Nat.le_of_ble_eq_true rfl) (fun X hX E T0 M => b_X5_detailOf E T0 e M)
abbrev rmX2_keep : Room := { frames := 0, cells := 0, slots := 0, locals := 0 }
noncomputable def f_X2_keep (h : PH) (a0 : Nat) (a1 : Int32) (a2 : Int32) (a3 : Int32) : Option PH :=
  (wr h a0 5 0 (.int a1)).bind fun h1 =>
  (wr h1 a0 5 1 (.int a2)).bind fun h3 =>
  (wr h3 a0 5 2 (.int a3)).bind fun h5 =>
  some h5
theorem b_X2_keep {X : PX} (E : z_E X cX2_keep RX2 "keep" 4 rmX2_keep none) (T0 : z_T0 X) {h : PH} {a0 : Nat} {a1 : Int32} {a2 : Int32} {a3 : Int32} {r : PH} (e : f_X2_keep h a0 a1 a2 a3 = some r) (M : z_M X rmX2_keep.cells rmX2_keep.slots (.inr none) r) : WP X 4 0 0 0 [(0, .ref a0), (1, .int a1), (2, .int a2), (3, .int a3)] [] h := by
  unfold f_X2_keep at e
  refine z_aload_n E 0 dX2_keep_0 rfl ?_
  refine z_iload_n E 1 dX2_keep_1 rfl ?_
  obtain ⟨h1, e2, e⟩ := ob e
  refine z_putI E fp_X2_7 (Or.inl rfl) dX2_keep_2 e2 ?_
  refine z_aload_n E 0 dX2_keep_5 rfl ?_
  refine z_iload_n E 2 dX2_keep_6 rfl ?_
  obtain ⟨h3, e4, e⟩ := ob e
  refine z_putI E fp_X2_13 (Or.inl rfl) dX2_keep_7 e4 ?_
  refine z_aload_n E 0 dX2_keep_10 rfl ?_
  refine z_iload_n E 3 dX2_keep_11 rfl ?_
  obtain ⟨h5, e6, e⟩ := ob e
  refine z_putI E fp_X2_16 (Or.inl rfl) dX2_keep_12 e6 ?_
  obtain rfl := Option.some.inj e
  exact z_vret E M dX2_keep_15 rfl rfl rfl (by decide) (by decide)
theorem c_X2_keep {l : Launch} (hl : l.stackTraces = false) {h : PH} {a0 : Nat} {a1 : Int32} {a2 : Int32} {a3 : Int32} {r : PH} (e : f_X2_keep h a0 a1 a2 a3 = some r) : CMet l yX2_keep (z_W yX2_keep cX2_keep 4 none) rmX2_keep h [.ref a0, .int a1, .int a2, .int a3] (.inr none) r :=
  z_met hl Y_X2_keep (by decide +kernel) (Nat.le_of_ble_eq_true rfl) (fun X hX E T0 M => b_X2_keep E T0 e M)
abbrev rmX9_refuse : Room := { frames := 6, cells := 1, slots := 6, locals := 92 }
noncomputable def f_X9_refuse (a0 : Int32) : (String ⊕ Unit) :=
  if ¬ a0 = (-1 : Int32) then
    if ¬ a0 = (-2 : Int32) then
      if ¬ a0 = (-3 : Int32) then
        if a0 = 0 then
          (Sum.inr ())
        else
          (Sum.inl "java/lang/UnsupportedOperationException")
      else
        (Sum.inl "java/lang/IndexOutOfBoundsException")
    else
      (Sum.inl "java/util/NoSuchElementException")
  else
    (Sum.inl "java/lang/IllegalArgumentException")
theorem b_X9_refuse {X : PX} (E : z_E X cX9_refuse RX9 "refuse" 1 rmX9_refuse none) (T0 : z_T0 X) {h : PH} {a0 : Int32} {r : (String ⊕ Unit)} (e : f_X9_refuse a0 = r) (M : z_M X rmX9_refuse.cells rmX9_refuse.slots (zoV r) h) : WP X 1 0 0 0 [(0, .int a0)] [] h := by
  unfold f_X9_refuse at e
  refine z_iload_n E 0 dX9_refuse_0 rfl ?_
  refine z_iconst E dX9_refuse_1 ic_m1 ?_
  rcases oi e with ⟨c1, e⟩ | ⟨c1, e⟩
  · refine z_icmp_neT (tgt := 16) E dX9_refuse_2 rfl c1 ?_
    refine z_iload_n E 0 dX9_refuse_16 rfl ?_
    refine z_bipush E dX9_refuse_17 bp_m2 ?_
    rcases oi e with ⟨c2, e⟩ | ⟨c2, e⟩
    · refine z_icmp_neT (tgt := 33) E dX9_refuse_19 rfl c2 ?_
      refine z_iload_n E 0 dX9_refuse_33 rfl ?_
      refine z_bipush E dX9_refuse_34 bp_m3 ?_
      rcases oi e with ⟨c3, e⟩ | ⟨c3, e⟩
      · refine z_icmp_neT (tgt := 50) E dX9_refuse_36 rfl c3 ?_
        refine z_iload_n E 0 dX9_refuse_50 rfl ?_
        rcases oi e with ⟨c4, e⟩ | ⟨c4, e⟩
        · refine z_if_eqT (tgt := 65) E dX9_refuse_51 rfl c4 ?_
          subst e
          exact z_vret E M dX9_refuse_65 rfl rfl rfl (by decide) (by decide)
        · refine z_if_eqF (tgt := 65) E dX9_refuse_51 rfl c4 ?_
          subst e
          exact z_throw E 7 th_X9_251_338_255 T0 M dX9_refuse_54 dX9_refuse_57 (Or.inr ⟨dX9_refuse_58, rfl⟩) dX9_refuse_61 dX9_refuse_64 rfl rfl (by decide) (Nat.le_of_ble_eq_true rfl) (by decide) (by decide) (by decide) (by decide)
      · refine z_icmp_neF (tgt := 50) E dX9_refuse_36 rfl (Classical.not_not.mp c3) ?_
        subst e
        exact z_throw E 7 th_X9_275_336_279 T0 M dX9_refuse_39 dX9_refuse_42 (Or.inr ⟨dX9_refuse_43, rfl⟩) dX9_refuse_46 dX9_refuse_49 rfl rfl (by decide) (Nat.le_of_ble_eq_true rfl) (by decide) (by decide) (by decide) (by decide)
    · refine z_icmp_neF (tgt := 33) E dX9_refuse_19 rfl (Classical.not_not.mp c2) ?_
      subst e
      exact z_throw E 7 th_X9_120_334_124 T0 M dX9_refuse_22 dX9_refuse_25 (Or.inr ⟨dX9_refuse_26, rfl⟩) dX9_refuse_29 dX9_refuse_32 rfl rfl (by decide) (Nat.le_of_ble_eq_true rfl) (by decide) (by decide) (by decide) (by decide)
  · refine z_icmp_neF (tgt := 16) E dX9_refuse_2 rfl (Classical.not_not.mp c1) ?_
    subst e
    exact z_throw E 7 th_X9_232_332_236 T0 M dX9_refuse_5 dX9_refuse_8 (Or.inr ⟨dX9_refuse_9, rfl⟩) dX9_refuse_12 dX9_refuse_15 rfl rfl (by decide) (Nat.le_of_ble_eq_true rfl) (by decide) (by decide) (by decide) (by decide)
theorem c_X9_refuse {l : Launch} (hl : l.stackTraces = false) {h : PH} (a0 : Int32) : CMet l yX9_refuse (z_W yX9_refuse cX9_refuse 1 none) rmX9_refuse h [.int a0] (zoV (f_X9_refuse a0)) h :=
  z_met hl Y_X9_refuse (by decide +kernel) (Nat.le_of_ble_eq_true rfl) (fun X hX E T0 M => b_X9_refuse E T0 rfl M)
