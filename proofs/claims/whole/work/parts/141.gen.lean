abbrev rmX7_copyFrom : Room := { frames := 1, cells := 0, slots := 0, locals := 60 }
noncomputable def f_X7_copyFrom (h : PH) (a0 : Nat) (a1 : Nat) : Option PH :=
  (rdI h a1 9 0).bind fun x1 =>
  (wr h a0 9 0 (.int x1)).bind fun h3 =>
  (rdR h3 a1 9 1).bind fun x5 =>
  (rdR h3 a0 9 1).bind fun x7 =>
  (cpI .int h3 x5 (0 : Int32) x7 (0 : Int32) (10 : Int32)).bind fun h9 =>
  (rdR h9 a1 9 2).bind fun x11 =>
  (rdR h9 a0 9 2).bind fun x13 =>
  (cpI .int h9 x11 (0 : Int32) x13 (0 : Int32) (10 : Int32)).bind fun h15 =>
  (rdR h15 a1 9 3).bind fun x17 =>
  (rdR h15 a0 9 3).bind fun x19 =>
  (cpI .char h15 x17 (0 : Int32) x19 (0 : Int32) (10 : Int32)).bind fun h21 =>
  (rdR h21 a1 9 4).bind fun x23 =>
  (rdR h21 a0 9 4).bind fun x25 =>
  (cpI .int h21 x23 (0 : Int32) x25 (0 : Int32) (10 : Int32)).bind fun h27 =>
  (rdR h27 a1 9 5).bind fun x29 =>
  (rdR h27 a0 9 5).bind fun x31 =>
  (cpI .int h27 x29 (0 : Int32) x31 (0 : Int32) (12 : Int32)).bind fun h33 =>
  (rdR h33 a1 9 6).bind fun x35 =>
  (rdR h33 a0 9 6).bind fun x37 =>
  (cpI .int h33 x35 (0 : Int32) x37 (0 : Int32) (12 : Int32)).bind fun h39 =>
  (rdR h39 a1 9 7).bind fun x41 =>
  (rdR h39 a0 9 7).bind fun x43 =>
  (cpI .int h39 x41 (0 : Int32) x43 (0 : Int32) (12 : Int32)).bind fun h45 =>
  (rdI h45 a1 9 8).bind fun x47 =>
  (wr h45 a0 9 8 (.int x47)).bind fun h49 =>
  (rdR h49 a1 9 9).bind fun x51 =>
  (rdR h49 a0 9 9).bind fun x53 =>
  (cpI .int h49 x51 (0 : Int32) x53 (0 : Int32) (5 : Int32)).bind fun h55 =>
  (rdR h55 a1 9 10).bind fun x57 =>
  (rdR h55 a0 9 10).bind fun x59 =>
  (cpI .int h55 x57 (0 : Int32) x59 (0 : Int32) (5 : Int32)).bind fun h61 =>
  (rdR h61 a1 9 11).bind fun x63 =>
  (rdR h61 a0 9 11).bind fun x65 =>
  (cpI .int h61 x63 (0 : Int32) x65 (0 : Int32) (5 : Int32)).bind fun h67 =>
  (rdI h67 a1 9 12).bind fun x69 =>
  (zn .boolean x69).bind fun x73 =>
  (wr h67 a0 9 12 (.int x73)).bind fun h71 =>
  (rdI h71 a1 9 13).bind fun x75 =>
  (wr h71 a0 9 13 (.int x75)).bind fun h77 =>
  (rdI h77 a1 9 14).bind fun x79 =>
  (wr h77 a0 9 14 (.int x79)).bind fun h81 =>
  (rdI h81 a1 9 15).bind fun x83 =>
  (wr h81 a0 9 15 (.int x83)).bind fun h85 =>
  (rdI h85 a1 9 16).bind fun x87 =>
  (wr h85 a0 9 16 (.int x87)).bind fun h89 =>
  some h89
theorem b_X7_copyFrom {X : PX} (E : z_E X cX7_copyFrom RX7 "copyFrom" 2 rmX7_copyFrom none) (T0 : z_T0 X) {h : PH} {a0 : Nat} {a1 : Nat} {r : PH} (e : f_X7_copyFrom h a0 a1 = some r) (M : z_M X rmX7_copyFrom.cells rmX7_copyFrom.slots (.inr none) r) : WP X 2 0 0 0 [(0, .ref a0), (1, .ref a1)] [] h := by
  unfold f_X7_copyFrom at e
  refine z_aload_n E 0 dX7_copyFrom_0 rfl ?_
  refine z_aload_n E 1 dX7_copyFrom_1 rfl ?_
  obtain ⟨x1, e2, e⟩ := ob e
  refine z_getI E fl_X7_53 dX7_copyFrom_2 e2 ?_
  obtain ⟨h3, e4, e⟩ := ob e
  refine z_putI E fp_X7_53 (Or.inl rfl) dX7_copyFrom_5 e4 ?_
  refine z_aload_n E 1 dX7_copyFrom_8 rfl ?_
  obtain ⟨x5, e6, e⟩ := ob e
  refine z_getR E fl_X7_9 dX7_copyFrom_9 e6 ?_
  refine z_iconst E dX7_copyFrom_12 ic_0 ?_
  refine z_aload_n E 0 dX7_copyFrom_13 rfl ?_
  obtain ⟨x7, e8, e⟩ := ob e
  refine z_getR E fl_X7_9 dX7_copyFrom_14 e8 ?_
  refine z_iconst E dX7_copyFrom_17 ic_0 ?_
  refine z_bipush E dX7_copyFrom_18 bp_10 ?_
  obtain ⟨h9, e10, e⟩ := ob e
  refine z_cpI E ar_X7_56 dX7_copyFrom_20 e10 (by decide) (Nat.le_of_ble_eq_true rfl) ?_
  refine z_aload_n E 1 dX7_copyFrom_23 rfl ?_
  obtain ⟨x11, e12, e⟩ := ob e
  refine z_getR E fl_X7_15 dX7_copyFrom_24 e12 ?_
  refine z_iconst E dX7_copyFrom_27 ic_0 ?_
  refine z_aload_n E 0 dX7_copyFrom_28 rfl ?_
  obtain ⟨x13, e14, e⟩ := ob e
  refine z_getR E fl_X7_15 dX7_copyFrom_29 e14 ?_
  refine z_iconst E dX7_copyFrom_32 ic_0 ?_
  refine z_bipush E dX7_copyFrom_33 bp_10 ?_
  obtain ⟨h15, e16, e⟩ := ob e
  refine z_cpI E ar_X7_56 dX7_copyFrom_35 e16 (by decide) (Nat.le_of_ble_eq_true rfl) ?_
  refine z_aload_n E 1 dX7_copyFrom_38 rfl ?_
  obtain ⟨x17, e18, e⟩ := ob e
  refine z_getR E fl_X7_18 dX7_copyFrom_39 e18 ?_
  refine z_iconst E dX7_copyFrom_42 ic_0 ?_
  refine z_aload_n E 0 dX7_copyFrom_43 rfl ?_
  obtain ⟨x19, e20, e⟩ := ob e
  refine z_getR E fl_X7_18 dX7_copyFrom_44 e20 ?_
  refine z_iconst E dX7_copyFrom_47 ic_0 ?_
  refine z_bipush E dX7_copyFrom_48 bp_10 ?_
  obtain ⟨h21, e22, e⟩ := ob e
  refine z_cpC E ar_X7_56 dX7_copyFrom_50 e22 (by decide) (Nat.le_of_ble_eq_true rfl) ?_
  refine z_aload_n E 1 dX7_copyFrom_53 rfl ?_
  obtain ⟨x23, e24, e⟩ := ob e
  refine z_getR E fl_X7_22 dX7_copyFrom_54 e24 ?_
  refine z_iconst E dX7_copyFrom_57 ic_0 ?_
  refine z_aload_n E 0 dX7_copyFrom_58 rfl ?_
  obtain ⟨x25, e26, e⟩ := ob e
  refine z_getR E fl_X7_22 dX7_copyFrom_59 e26 ?_
  refine z_iconst E dX7_copyFrom_62 ic_0 ?_
  refine z_bipush E dX7_copyFrom_63 bp_10 ?_
  obtain ⟨h27, e28, e⟩ := ob e
  refine z_cpI E ar_X7_56 dX7_copyFrom_65 e28 (by decide) (Nat.le_of_ble_eq_true rfl) ?_
  refine z_aload_n E 1 dX7_copyFrom_68 rfl ?_
  obtain ⟨x29, e30, e⟩ := ob e
  refine z_getR E fl_X7_25 dX7_copyFrom_69 e30 ?_
  refine z_iconst E dX7_copyFrom_72 ic_0 ?_
  refine z_aload_n E 0 dX7_copyFrom_73 rfl ?_
  obtain ⟨x31, e32, e⟩ := ob e
  refine z_getR E fl_X7_25 dX7_copyFrom_74 e32 ?_
  refine z_iconst E dX7_copyFrom_77 ic_0 ?_
  refine z_bipush E dX7_copyFrom_78 bp_12 ?_
  obtain ⟨h33, e34, e⟩ := ob e
  refine z_cpI E ar_X7_56 dX7_copyFrom_80 e34 (by decide) (Nat.le_of_ble_eq_true rfl) ?_
  refine z_aload_n E 1 dX7_copyFrom_83 rfl ?_
  obtain ⟨x35, e36, e⟩ := ob e
  refine z_getR E fl_X7_28 dX7_copyFrom_84 e36 ?_
  refine z_iconst E dX7_copyFrom_87 ic_0 ?_
  refine z_aload_n E 0 dX7_copyFrom_88 rfl ?_
  obtain ⟨x37, e38, e⟩ := ob e
  refine z_getR E fl_X7_28 dX7_copyFrom_89 e38 ?_
  refine z_iconst E dX7_copyFrom_92 ic_0 ?_
  refine z_bipush E dX7_copyFrom_93 bp_12 ?_
  obtain ⟨h39, e40, e⟩ := ob e
  refine z_cpI E ar_X7_56 dX7_copyFrom_95 e40 (by decide) (Nat.le_of_ble_eq_true rfl) ?_
  refine z_aload_n E 1 dX7_copyFrom_98 rfl ?_
  obtain ⟨x41, e42, e⟩ := ob e
  refine z_getR E fl_X7_31 dX7_copyFrom_99 e42 ?_
  refine z_iconst E dX7_copyFrom_102 ic_0 ?_
  refine z_aload_n E 0 dX7_copyFrom_103 rfl ?_
  obtain ⟨x43, e44, e⟩ := ob e
  refine z_getR E fl_X7_31 dX7_copyFrom_104 e44 ?_
  refine z_iconst E dX7_copyFrom_107 ic_0 ?_
  refine z_bipush E dX7_copyFrom_108 bp_12 ?_
  obtain ⟨h45, e46, e⟩ := ob e
  refine z_cpI E ar_X7_56 dX7_copyFrom_110 e46 (by decide) (Nat.le_of_ble_eq_true rfl) ?_
  refine z_aload_n E 0 dX7_copyFrom_113 rfl ?_
  refine z_aload_n E 1 dX7_copyFrom_114 rfl ?_
  obtain ⟨x47, e48, e⟩ := ob e
  refine z_getI E fl_X7_62 dX7_copyFrom_115 e48 ?_
  obtain ⟨h49, e50, e⟩ := ob e
  refine z_putI E fp_X7_62 (Or.inl rfl) dX7_copyFrom_118 e50 ?_
  refine z_aload_n E 1 dX7_copyFrom_121 rfl ?_
  obtain ⟨x51, e52, e⟩ := ob e
  refine z_getR E fl_X7_34 dX7_copyFrom_122 e52 ?_
  refine z_iconst E dX7_copyFrom_125 ic_0 ?_
  refine z_aload_n E 0 dX7_copyFrom_126 rfl ?_
  obtain ⟨x53, e54, e⟩ := ob e
  refine z_getR E fl_X7_34 dX7_copyFrom_127 e54 ?_
  refine z_iconst E dX7_copyFrom_130 ic_0 ?_
  refine z_iconst E dX7_copyFrom_131 ic_5 ?_
  obtain ⟨h55, e56, e⟩ := ob e
  refine z_cpI E ar_X7_56 dX7_copyFrom_132 e56 (by decide) (Nat.le_of_ble_eq_true rfl) ?_
  refine z_aload_n E 1 dX7_copyFrom_135 rfl ?_
  obtain ⟨x57, e58, e⟩ := ob e
  refine z_getR E fl_X7_37 dX7_copyFrom_136 e58 ?_
  refine z_iconst E dX7_copyFrom_139 ic_0 ?_
  refine z_aload_n E 0 dX7_copyFrom_140 rfl ?_
  obtain ⟨x59, e60, e⟩ := ob e
  refine z_getR E fl_X7_37 dX7_copyFrom_141 e60 ?_
  refine z_iconst E dX7_copyFrom_144 ic_0 ?_
  refine z_iconst E dX7_copyFrom_145 ic_5 ?_
  obtain ⟨h61, e62, e⟩ := ob e
  refine z_cpI E ar_X7_56 dX7_copyFrom_146 e62 (by decide) (Nat.le_of_ble_eq_true rfl) ?_
  refine z_aload_n E 1 dX7_copyFrom_149 rfl ?_
  obtain ⟨x63, e64, e⟩ := ob e
  refine z_getR E fl_X7_40 dX7_copyFrom_150 e64 ?_
  refine z_iconst E dX7_copyFrom_153 ic_0 ?_
  refine z_aload_n E 0 dX7_copyFrom_154 rfl ?_
  obtain ⟨x65, e66, e⟩ := ob e
  refine z_getR E fl_X7_40 dX7_copyFrom_155 e66 ?_
  refine z_iconst E dX7_copyFrom_158 ic_0 ?_
  refine z_iconst E dX7_copyFrom_159 ic_5 ?_
  obtain ⟨h67, e68, e⟩ := ob e
  refine z_cpI E ar_X7_56 dX7_copyFrom_160 e68 (by decide) (Nat.le_of_ble_eq_true rfl) ?_
  refine z_aload_n E 0 dX7_copyFrom_163 rfl ?_
  refine z_aload_n E 1 dX7_copyFrom_164 rfl ?_
  obtain ⟨x69, e70, e⟩ := ob e
  refine z_getI E fl_X7_65 dX7_copyFrom_165 e70 ?_
  obtain ⟨x73, e74, e⟩ := ob e
  obtain ⟨h71, e72, e⟩ := ob e
  refine z_putN E fp_X7_65 (Or.inl rfl) dX7_copyFrom_168 e74 e72 ?_
  refine z_aload_n E 0 dX7_copyFrom_171 rfl ?_
  refine z_aload_n E 1 dX7_copyFrom_172 rfl ?_
  obtain ⟨x75, e76, e⟩ := ob e
  refine z_getI E fl_X7_69 dX7_copyFrom_173 e76 ?_
  obtain ⟨h77, e78, e⟩ := ob e
  refine z_putI E fp_X7_69 (Or.inl rfl) dX7_copyFrom_176 e78 ?_
  refine z_aload_n E 0 dX7_copyFrom_179 rfl ?_
  refine z_aload_n E 1 dX7_copyFrom_180 rfl ?_
  obtain ⟨x79, e80, e⟩ := ob e
  refine z_getI E fl_X7_43 dX7_copyFrom_181 e80 ?_
  obtain ⟨h81, e82, e⟩ := ob e
  refine z_putI E fp_X7_43 (Or.inl rfl) dX7_copyFrom_184 e82 ?_
  refine z_aload_n E 0 dX7_copyFrom_187 rfl ?_
  refine z_aload_n E 1 dX7_copyFrom_188 rfl ?_
  obtain ⟨x83, e84, e⟩ := ob e
  refine z_getI E fl_X7_72 dX7_copyFrom_189 e84 ?_
  obtain ⟨h85, e86, e⟩ := ob e
  refine z_putI E fp_X7_72 (Or.inl rfl) dX7_copyFrom_192 e86 ?_
  refine z_aload_n E 0 dX7_copyFrom_195 rfl ?_
  refine z_aload_n E 1 dX7_copyFrom_196 rfl ?_
  obtain ⟨x87, e88, e⟩ := ob e
  refine z_getI E fl_X7_75 dX7_copyFrom_197 e88 ?_
  obtain ⟨h89, e90, e⟩ := ob e
  refine z_putI E fp_X7_75 (Or.inl rfl) dX7_copyFrom_200 e90 ?_
  obtain rfl := Option.some.inj e
  exact z_vret E M dX7_copyFrom_203 rfl rfl rfl (by decide) (by decide)
theorem c_X7_copyFrom {l : Launch} (hl : l.stackTraces = false) {h : PH} {a0 : Nat} {a1 : Nat} {r : PH} (e : f_X7_copyFrom h a0 a1 = some r) : CMet l yX7_copyFrom (z_W yX7_copyFrom cX7_copyFrom 2 none) rmX7_copyFrom h [.ref a0, .ref a1] (.inr none) r :=
  z_met hl Y_X7_copyFrom (by decide +kernel) (Nat.le_of_ble_eq_true rfl) (fun X hX E T0 M => b_X7_copyFrom E T0 e M)
abbrev rmJ9_min_7cf53 : Room := { frames := 0, cells := 0, slots := 0, locals := 0 }
noncomputable def f_J9_min_7cf53 (a0 : Int32) (a1 : Int32) : Int32 :=
  if a1 < a0 then
    a1
  else
    a0
theorem b_J9_min_7cf53 {X : PX} (E : z_E X cJ9_min_7cf53 RJ9 "min" 2 rmJ9_min_7cf53 (some .int)) (T0 : z_T0 X) {h : PH} {a0 : Int32} {a1 : Int32} {r : Int32} (e : f_J9_min_7cf53 a0 a1 = r) (M : z_M X rmJ9_min_7cf53.cells rmJ9_min_7cf53.slots (.inr (some (.int r))) h) : WP X 2 0 0 0 [(0, .int a0), (1, .int a1)] [] h := by
  unfold f_J9_min_7cf53 at e
  refine z_iload_n E 0 dJ9_min_7cf53_0 rfl ?_
  refine z_iload_n E 1 dJ9_min_7cf53_1 rfl ?_
  rcases oi e with ⟨c1, e⟩ | ⟨c1, e⟩
  · refine z_icmp_gtT (tgt := 9) E dJ9_min_7cf53_2 rfl c1 ?_
    refine z_iload_n E 1 dJ9_min_7cf53_9 rfl ?_
    subst e
    exact z_iret E M dJ9_min_7cf53_10 rfl rfl rfl rfl (by decide) (by decide)
  · refine z_icmp_gtF (tgt := 9) E dJ9_min_7cf53_2 rfl c1 ?_
    refine z_iload_n E 0 dJ9_min_7cf53_5 rfl ?_
    refine z_goto (tgt := 10) E dJ9_min_7cf53_6 rfl ?_
    subst e
    exact z_iret E M dJ9_min_7cf53_10 rfl rfl rfl rfl (by decide) (by decide)
theorem c_J9_min_7cf53 {l : Launch} (hl : l.stackTraces = false) {h : PH} (a0 : Int32) (a1 : Int32) : CMet l yJ9_min_7cf53 (z_W yJ9_min_7cf53 cJ9_min_7cf53 2 (some .int)) rmJ9_min_7cf53 h [.int a0, .int a1] (.inr (some (.int (f_J9_min_7cf53 a0 a1)))) h :=
  z_metF hl Y_J9_min_7cf53 (by decide +kernel) (Nat.le_of_ble_eq_true rfl) (fun X hX E T0 M => b_J9_min_7cf53 E T0 rfl M)
abbrev rmX4_remember : Room := { frames := 2, cells := 11, slots := 111, locals := 81 }
noncomputable def f_X4_remember_J32 (h : PH) (v0 : Nat) (v1 : Nat) (v2 : Nat) : Option PH :=
  (gd h v2 9).bind fun _ =>
  (f_X7_copyFrom h v2 v1).bind fun p2 =>
  (rdI p2 v0 7 1).bind fun x4 =>
  (wr p2 v0 7 1 (.int (zrem (x4 + (1 : Int32)) (8 : Int32)))).bind fun h6 =>
  (rdI h6 v0 7 2).bind fun x8 =>
  (wr h6 v0 7 2 (.int (f_J9_min_7cf53 (x8 + (1 : Int32)) (8 : Int32)))).bind fun h10 =>
  some h10
theorem b_X4_remember_J32 {X : PX} (E : z_E X cX4_remember RX4 "remember" 3 rmX4_remember none) (T0 : z_T0 X) {k n : Nat} (hk : k + 0 ≤ rmX4_remember.cells) (hn : n + 0 ≤ rmX4_remember.slots) {h : PH} {v0 : Nat} {v1 : Nat} {v2 : Nat} {r : PH} (e : f_X4_remember_J32 h v0 v1 v2 = some r) (M : z_M X rmX4_remember.cells rmX4_remember.slots (.inr none) r) : WP X 3 k n 32 [(0, .ref v0), (1, .ref v1), (2, .ref v2)] [] h := by
  unfold f_X4_remember_J32 at e
  refine z_aload_n E 2 dX4_remember_32 rfl ?_
  refine z_aload_n E 1 dX4_remember_33 rfl ?_
  obtain ⟨_, e1, e⟩ := ob e
  obtain ⟨p2, e3, e⟩ := ob e
  refine z_kV2 (st := []) (av := [.ref v2, .ref v1]) E k n (z_rV (st := []) (av := [.ref v1]) E Y_X7_copyFrom k_X4_22 (ci := 9) rfl (c_X7_copyFrom (z_El E) e3) dX4_remember_34 e1 rfl rfl (by decide) (by decide) (zk (k := k) (a := 0) hk (by decide)) (zk (k := n) (a := 0) hn (by decide)) (Nat.zero_le _)) rfl rfl rfl ?_
  refine z_aload_n E 0 dX4_remember_37 rfl ?_
  refine z_aload_n E 0 dX4_remember_38 rfl ?_
  obtain ⟨x4, e5, e⟩ := ob e
  refine z_getI E fl_X4_17 dX4_remember_39 e5 ?_
  refine z_iconst E dX4_remember_42 ic_1 ?_
  refine z_iadd E dX4_remember_43 ?_
  refine z_bipush E dX4_remember_44 bp_8 ?_
  refine z_irem E dX4_remember_46 (by decide) ?_
  obtain ⟨h6, e7, e⟩ := ob e
  refine z_putI E fp_X4_17 (Or.inl rfl) dX4_remember_47 e7 ?_
  refine z_aload_n E 0 dX4_remember_50 rfl ?_
  refine z_aload_n E 0 dX4_remember_51 rfl ?_
  obtain ⟨x8, e9, e⟩ := ob e
  refine z_getI E fl_X4_26 dX4_remember_52 e9 ?_
  refine z_iconst E dX4_remember_55 ic_1 ?_
  refine z_iadd E dX4_remember_56 ?_
  refine z_bipush E dX4_remember_57 bp_8 ?_
  refine z_kR2 (st := [.ref v0]) (av := [.int (x8 + (1 : Int32)), .int (8 : Int32)]) E k n (z_rS (st := [.ref v0]) (av := [.int (x8 + (1 : Int32)), .int (8 : Int32)]) E Y_J9_min_7cf53 k_X4_29 (c_J9_min_7cf53 (l := z_l X) (h := h6) (z_El E) (x8 + (1 : Int32)) (8 : Int32)) dX4_remember_59 rfl rfl (by decide) (by decide) (zk (k := k) (a := 0) hk (by decide)) (zk (k := n) (a := 0) hn (by decide)) (Nat.le_of_ble_eq_true rfl)) rfl rfl rfl ?_
  obtain ⟨h10, e11, e⟩ := ob e
  refine z_putI E fp_X4_26 (Or.inl rfl) dX4_remember_62 e11 ?_
  obtain rfl := Option.some.inj e
  exact z_vret E M dX4_remember_65 rfl rfl rfl (zk (k := k) (a := 0) hk (by decide)) (zk (k := n) (a := 0) hn (by decide))
noncomputable def f_X4_remember (h : PH) (a0 : Nat) (a1 : Nat) : Option PH :=
  (rdR h a0 7 0).bind fun x1 =>
  (rdI h a0 7 1).bind fun x3 =>
  (alQ h x1 x3).bind fun x5 =>
  zoc x5
    ((f_X7_init (nwO 9 [.int 0, .null, .null, .null, .null, .null, .null, .null, .int 0, .null, .null, .null, .int 0, .int 0, .int 0, .int 0, .int 0] h) h.1).bind fun p9 =>
    (rdR p9 a0 7 0).bind fun x11 =>
    (rdI p9 a0 7 1).bind fun x13 =>
    (asQ 9 p9 x11 x13 h.1).bind fun h15 =>
    f_X4_remember_J32 h15 a0 a1 h.1)
    (fun y8 =>
    f_X4_remember_J32 h a0 a1 y8)
theorem b_X4_remember {X : PX} (E : z_E X cX4_remember RX4 "remember" 3 rmX4_remember none) (T0 : z_T0 X) {h : PH} {a0 : Nat} {a1 : Nat} {r : PH} (e : f_X4_remember h a0 a1 = some r) (M : z_M X rmX4_remember.cells rmX4_remember.slots (.inr none) r) : WP X 3 0 0 0 [(0, .ref a0), (1, .ref a1)] [] h := by
  unfold f_X4_remember at e
  refine z_aload_n E 0 dX4_remember_0 rfl ?_
  obtain ⟨x1, e2, e⟩ := ob e
  refine z_getR E fl_X4_11 dX4_remember_1 e2 ?_
  refine z_aload_n E 0 dX4_remember_4 rfl ?_
  obtain ⟨x3, e4, e⟩ := ob e
  refine z_getI E fl_X4_17 dX4_remember_5 e4 ?_
  obtain ⟨x5, e6, e⟩ := ob e
  refine z_aald E dX4_remember_8 e6 ?_
  rcases on e with ⟨c7, e⟩ | ⟨y8, c7, e⟩
  · subst c7
    refine z_astoreN_n (lv2 := [(2, .null), (0, .ref a0), (1, .ref a1)]) E dX4_remember_9 (by decide) rfl ?_
    refine z_aloadN_n E 0 dX4_remember_10 rfl ?_
    refine z_ifnonnullF E dX4_remember_11 ?_
    refine z_nwO E nw_X4_9 dX4_remember_14 (by decide) (by decide) ?_
    refine z_kn 1 20 rfl rfl ?_
    refine z_dup E dX4_remember_17 rfl ?_
    obtain ⟨p9, e10, e⟩ := ob e
    refine z_kV2 (st := [.ref h.1]) (av := [.ref h.1]) E 11 111 (z_rI (st := [.ref h.1]) (av := []) E Y_X7_init k_X4_21 (c_X7_init (z_El E) e10) dX4_remember_18 rfl rfl (by decide) (by decide) (by decide) (by decide) (Nat.le_of_ble_eq_true rfl)) rfl rfl rfl ?_
    refine z_astore_n (lv2 := [(2, .ref h.1), (0, .ref a0), (1, .ref a1)]) E dX4_remember_21 (by decide) rfl ?_
    refine z_aload_n E 1 dX4_remember_22 rfl ?_
    obtain ⟨x11, e12, e⟩ := ob e
    refine z_getR E fl_X4_11 dX4_remember_23 e12 ?_
    refine z_aload_n E 1 dX4_remember_26 rfl ?_
    obtain ⟨x13, e14, e⟩ := ob e
    refine z_getI E fl_X4_17 dX4_remember_27 e14 ?_
    refine z_aload_n E 0 dX4_remember_30 rfl ?_
    obtain ⟨h15, e16, e⟩ := ob e
    refine z_aast (ci := 9) E rfl dX4_remember_31 e16 ?_
    exact z_sub [1, 2, 0] rfl (b_X4_remember_J32 E T0 (by decide) (by decide) e M)
  · subst c7
    refine z_astore_n (lv2 := [(2, .ref y8), (0, .ref a0), (1, .ref a1)]) E dX4_remember_9 (by decide) rfl ?_
    refine z_aload_n E 0 dX4_remember_10 rfl ?_
    refine z_ifnonnullT (tgt := 32) E dX4_remember_11 rfl ?_
    exact z_sub [1, 2, 0] rfl (b_X4_remember_J32 E T0 (by decide) (by decide) e M)
theorem c_X4_remember {l : Launch} (hl : l.stackTraces = false) {h : PH} {a0 : Nat} {a1 : Nat} {r : PH} (e : f_X4_remember h a0 a1 = some r) : CMet l yX4_remember (z_W yX4_remember cX4_remember 3 none) rmX4_remember h [.ref a0, .ref a1] (.inr none) r :=
  z_met hl Y_X4_remember (by decide +kernel) (Nat.le_of_ble_eq_true rfl) (fun X hX E T0 M => b_X4_remember E T0 e M)
abbrev rmX1_putNote : Room := { frames := 0, cells := 0, slots := 0, locals := 0 }
noncomputable def f_X1_putNote (h : PH) (a0 : Nat) (a1 : Int32) (a2 : Int32) : Option (Int32 × PH) :=
  (rdI h a0 9 0).bind fun x1 =>
  (rdR h a0 9 1).bind fun x3 =>
  (asI .int h x3 x1 a1).bind fun h5 =>
  (rdR h5 a0 9 2).bind fun x7 =>
  (asI .int h5 x7 x1 a2).bind fun h9 =>
  (rdR h9 a0 9 3).bind fun x11 =>
  (asI .char h9 x11 x1 (102 : Int32)).bind fun h13 =>
  (rdR h13 a0 9 4).bind fun x15 =>
  (asI .int h13 x15 x1 (0 : Int32)).bind fun h17 =>
  (wr h17 a0 9 0 (.int (x1 + (1 : Int32)))).bind fun h19 =>
  some (x1, h19)
theorem b_X1_putNote {X : PX} (E : z_E X cX1_putNote RX1 "putNote" 4 rmX1_putNote (some .int)) (T0 : z_T0 X) {h : PH} {a0 : Nat} {a1 : Int32} {a2 : Int32} {r : (Int32 × PH)} (e : f_X1_putNote h a0 a1 a2 = some r) (M : z_M X rmX1_putNote.cells rmX1_putNote.slots (.inr (some (.int r.1))) r.2) : WP X 4 0 0 0 [(0, .ref a0), (1, .int a1), (2, .int a2)] [] h := by
  unfold f_X1_putNote at e
  refine z_aload_n E 0 dX1_putNote_0 rfl ?_
  obtain ⟨x1, e2, e⟩ := ob e
  refine z_getI E fl_X1_72 dX1_putNote_1 e2 ?_
  refine z_istore_n (lv2 := [(3, .int x1), (0, .ref a0), (1, .int a1), (2, .int a2)]) E dX1_putNote_4 (by decide) rfl ?_
  refine z_aload_n E 1 dX1_putNote_5 rfl ?_
  obtain ⟨x3, e4, e⟩ := ob e
  refine z_getR E fl_X1_76 dX1_putNote_6 e4 ?_
  refine z_iload_n E 0 dX1_putNote_9 rfl ?_
  refine z_iload_n E 2 dX1_putNote_10 rfl ?_
  obtain ⟨h5, e6, e⟩ := ob e
  refine z_iast E dX1_putNote_11 e6 ?_
  refine z_aload_n E 1 dX1_putNote_12 rfl ?_
  obtain ⟨x7, e8, e⟩ := ob e
  refine z_getR E fl_X1_79 dX1_putNote_13 e8 ?_
  refine z_iload_n E 0 dX1_putNote_16 rfl ?_
  refine z_iload_n E 3 dX1_putNote_17 rfl ?_
  obtain ⟨h9, e10, e⟩ := ob e
  refine z_iast E dX1_putNote_18 e10 ?_
  refine z_aload_n E 1 dX1_putNote_19 rfl ?_
  obtain ⟨x11, e12, e⟩ := ob e
  refine z_getR E fl_X1_82 dX1_putNote_20 e12 ?_
  refine z_iload_n E 0 dX1_putNote_23 rfl ?_
  refine z_bipush E dX1_putNote_24 bp_102 ?_
  obtain ⟨h13, e14, e⟩ := ob e
  refine z_cast E dX1_putNote_26 e14 ?_
  refine z_aload_n E 1 dX1_putNote_27 rfl ?_
  obtain ⟨x15, e16, e⟩ := ob e
  refine z_getR E fl_X1_15 dX1_putNote_28 e16 ?_
  refine z_iload_n E 0 dX1_putNote_31 rfl ?_
  refine z_iconst E dX1_putNote_32 ic_0 ?_
  obtain ⟨h17, e18, e⟩ := ob e
  refine z_iast E dX1_putNote_33 e18 ?_
  refine z_aload_n E 1 dX1_putNote_34 rfl ?_
  refine z_iload_n E 0 dX1_putNote_35 rfl ?_
  refine z_iconst E dX1_putNote_36 ic_1 ?_
  refine z_iadd E dX1_putNote_37 ?_
  obtain ⟨h19, e20, e⟩ := ob e
  refine z_putI E fp_X1_72 (Or.inl rfl) dX1_putNote_38 e20 ?_
  refine z_iload_n E 0 dX1_putNote_41 rfl ?_
  obtain rfl := Option.some.inj e
  exact z_iret E M dX1_putNote_42 rfl rfl rfl rfl (by decide) (by decide)
theorem c_X1_putNote {l : Launch} (hl : l.stackTraces = false) {h : PH} {a0 : Nat} {a1 : Int32} {a2 : Int32} {r : (Int32 × PH)} (e : f_X1_putNote h a0 a1 a2 = some r) : CMet l yX1_putNote (z_W yX1_putNote cX1_putNote 4 (some .int)) rmX1_putNote h [.ref a0, .int a1, .int a2] (.inr (some (.int r.1))) r.2 :=
  z_met hl Y_X1_putNote (by decide +kernel) (Nat.le_of_ble_eq_true rfl) (fun X hX E T0 M => b_X1_putNote E T0 e M)
abbrev rmX1_replace : Room := { frames := 0, cells := 0, slots := 0, locals := 0 }
noncomputable def f_X1_replace (h : PH) (a0 : Nat) (a1 : Int32) (a2 : Int32) : Option (Int32 × PH) :=
  (alI .int h a0 a1).bind fun x1 =>
  (asI .int h a0 a1 a2).bind fun h3 =>
  some (x1, h3)
theorem b_X1_replace {X : PX} (E : z_E X cX1_replace RX1 "replace" 4 rmX1_replace (some .int)) (T0 : z_T0 X) {h : PH} {a0 : Nat} {a1 : Int32} {a2 : Int32} {r : (Int32 × PH)} (e : f_X1_replace h a0 a1 a2 = some r) (M : z_M X rmX1_replace.cells rmX1_replace.slots (.inr (some (.int r.1))) r.2) : WP X 4 0 0 0 [(0, .ref a0), (1, .int a1), (2, .int a2)] [] h := by
  unfold f_X1_replace at e
  refine z_aload_n E 0 dX1_replace_0 rfl ?_
  refine z_iload_n E 1 dX1_replace_1 rfl ?_
  obtain ⟨x1, e2, e⟩ := ob e
  refine z_iald E dX1_replace_2 e2 ?_
  refine z_istore_n (lv2 := [(3, .int x1), (0, .ref a0), (1, .int a1), (2, .int a2)]) E dX1_replace_3 (by decide) rfl ?_
  refine z_aload_n E 1 dX1_replace_4 rfl ?_
  refine z_iload_n E 2 dX1_replace_5 rfl ?_
  refine z_iload_n E 3 dX1_replace_6 rfl ?_
  obtain ⟨h3, e4, e⟩ := ob e
  refine z_iast E dX1_replace_7 e4 ?_
  refine z_iload_n E 0 dX1_replace_8 rfl ?_
  obtain rfl := Option.some.inj e
  exact z_iret E M dX1_replace_9 rfl rfl rfl rfl (by decide) (by decide)
theorem c_X1_replace {l : Launch} (hl : l.stackTraces = false) {h : PH} {a0 : Nat} {a1 : Int32} {a2 : Int32} {r : (Int32 × PH)} (e : f_X1_replace h a0 a1 a2 = some r) : CMet l yX1_replace (z_W yX1_replace cX1_replace 4 (some .int)) rmX1_replace h [.ref a0, .int a1, .int a2] (.inr (some (.int r.1))) r.2 :=
  z_met hl Y_X1_replace (by decide +kernel) (Nat.le_of_ble_eq_true rfl) (fun X hX E T0 M => b_X1_replace E T0 e M)
abbrev rmX1_putNet : Room := { frames := 0, cells := 0, slots := 0, locals := 0 }
noncomputable def f_X1_putNet (h : PH) (a0 : Nat) (a1 : Int32) (a2 : Int32) (a3 : Int32) : Option (Int32 × PH) :=
  (rdI h a0 9 8).bind fun x1 =>
  (rdR h a0 9 9).bind fun x3 =>
  (asI .int h x3 x1 a1).bind fun h5 =>
  (rdR h5 a0 9 10).bind fun x7 =>
  (asI .int h5 x7 x1 a2).bind fun h9 =>
  (rdR h9 a0 9 11).bind fun x11 =>
  (asI .int h9 x11 x1 a3).bind fun h13 =>
  (wr h13 a0 9 8 (.int (x1 + (1 : Int32)))).bind fun h15 =>
  some (x1, h15)
theorem b_X1_putNet {X : PX} (E : z_E X cX1_putNet RX1 "putNet" 5 rmX1_putNet (some .int)) (T0 : z_T0 X) {h : PH} {a0 : Nat} {a1 : Int32} {a2 : Int32} {a3 : Int32} {r : (Int32 × PH)} (e : f_X1_putNet h a0 a1 a2 a3 = some r) (M : z_M X rmX1_putNet.cells rmX1_putNet.slots (.inr (some (.int r.1))) r.2) : WP X 5 0 0 0 [(0, .ref a0), (1, .int a1), (2, .int a2), (3, .int a3)] [] h := by
  unfold f_X1_putNet at e
  refine z_aload_n E 0 dX1_putNet_0 rfl ?_
  obtain ⟨x1, e2, e⟩ := ob e
  refine z_getI E fl_X1_86 dX1_putNet_1 e2 ?_
  refine z_istore (lv2 := [(4, .int x1), (0, .ref a0), (1, .int a1), (2, .int a2), (3, .int a3)]) E dX1_putNet_4 (by decide) rfl ?_
  refine z_aload_n E 1 dX1_putNet_6 rfl ?_
  obtain ⟨x3, e4, e⟩ := ob e
  refine z_getR E fl_X1_89 dX1_putNet_7 e4 ?_
  refine z_iload E 0 dX1_putNet_10 rfl ?_
  refine z_iload_n E 2 dX1_putNet_12 rfl ?_
  obtain ⟨h5, e6, e⟩ := ob e
  refine z_iast E dX1_putNet_13 e6 ?_
  refine z_aload_n E 1 dX1_putNet_14 rfl ?_
  obtain ⟨x7, e8, e⟩ := ob e
  refine z_getR E fl_X1_92 dX1_putNet_15 e8 ?_
  refine z_iload E 0 dX1_putNet_18 rfl ?_
  refine z_iload_n E 3 dX1_putNet_20 rfl ?_
  obtain ⟨h9, e10, e⟩ := ob e
  refine z_iast E dX1_putNet_21 e10 ?_
  refine z_aload_n E 1 dX1_putNet_22 rfl ?_
  obtain ⟨x11, e12, e⟩ := ob e
  refine z_getR E fl_X1_95 dX1_putNet_23 e12 ?_
  refine z_iload E 0 dX1_putNet_26 rfl ?_
  refine z_iload_n E 4 dX1_putNet_28 rfl ?_
  obtain ⟨h13, e14, e⟩ := ob e
  refine z_iast E dX1_putNet_29 e14 ?_
  refine z_aload_n E 1 dX1_putNet_30 rfl ?_
  refine z_iload E 0 dX1_putNet_31 rfl ?_
  refine z_iconst E dX1_putNet_33 ic_1 ?_
  refine z_iadd E dX1_putNet_34 ?_
  obtain ⟨h15, e16, e⟩ := ob e
  refine z_putI E fp_X1_86 (Or.inl rfl) dX1_putNet_35 e16 ?_
  refine z_iload E 0 dX1_putNet_38 rfl ?_
  obtain rfl := Option.some.inj e
  exact z_iret E M dX1_putNet_40 rfl rfl rfl rfl (by decide) (by decide)
theorem c_X1_putNet {l : Launch} (hl : l.stackTraces = false) {h : PH} {a0 : Nat} {a1 : Int32} {a2 : Int32} {a3 : Int32} {r : (Int32 × PH)} (e : f_X1_putNet h a0 a1 a2 a3 = some r) : CMet l yX1_putNet (z_W yX1_putNet cX1_putNet 5 (some .int)) rmX1_putNet h [.ref a0, .int a1, .int a2, .int a3] (.inr (some (.int r.1))) r.2 :=
  z_met hl Y_X1_putNet (by decide +kernel) (Nat.le_of_ble_eq_true rfl) (fun X hX E T0 M => b_X1_putNet E T0 e M)
abbrev rmX1_cutNet : Room := { frames := 0, cells := 0, slots := 0, locals := 0 }
noncomputable def f_X1_cutNet_L9 : Nat → PH → Nat → Int32 → Int32 → Option PH
  | 0, _, _, _, _ => none
  | fu + 1, h, v0, v2, v3 =>
    if v2 ≤ v3 then
      some h
    else
      (rdR h v0 9 9).bind fun x2 =>
      (rdR h v0 9 9).bind fun x4 =>
      (alI .int h x4 (v3 + (1 : Int32))).bind fun x6 =>
      (asI .int h x2 v3 x6).bind fun h8 =>
      (rdR h8 v0 9 10).bind fun x10 =>
      (rdR h8 v0 9 10).bind fun x12 =>
      (alI .int h8 x12 (v3 + (1 : Int32))).bind fun x14 =>
      (asI .int h8 x10 v3 x14).bind fun h16 =>
      (rdR h16 v0 9 11).bind fun x18 =>
      (rdR h16 v0 9 11).bind fun x20 =>
      (alI .int h16 x20 (v3 + (1 : Int32))).bind fun x22 =>
      (asI .int h16 x18 v3 x22).bind fun h24 =>
      f_X1_cutNet_L9 fu h24 v0 v2 (v3 + (1 : Int32))
theorem b_X1_cutNet_L9 {X : PX} (E : z_E X cX1_cutNet RX1 "cutNet" 4 rmX1_cutNet (some .int)) (T0 : z_T0 X) {k n : Nat} (hk : k + 0 ≤ rmX1_cutNet.cells) (hn : n + 0 ≤ rmX1_cutNet.slots) {s : PH} : ∀ (fu : Nat) (h : PH) (v0 : Nat) (v2 : Int32) (v3 : Int32) (e : f_X1_cutNet_L9 fu h v0 v2 v3 = some s) (kk : WP X 4 k n 62 [(0, .ref v0), (2, .int v2)] [] s), WP X 4 k n 9 [(0, .ref v0), (2, .int v2), (3, .int v3)] [] h := by
  intro fu
  induction fu with
  | zero => intro h v0 v2 v3 e; exact absurd (show (none : Option PH) = some s from e) (by intro z; cases z)
  | succ fu ih =>
    intro h v0 v2 v3 e kk
    unfold f_X1_cutNet_L9 at e
    refine z_iload_n E 2 dX1_cutNet_9 rfl ?_
    refine z_iload_n E 1 dX1_cutNet_10 rfl ?_
    rcases oi e with ⟨c1, e⟩ | ⟨c1, e⟩
    · refine z_icmp_geT (tgt := 62) E dX1_cutNet_11 rfl c1 ?_
      obtain rfl := Option.some.inj e
      exact z_sub [0, 1] rfl kk
    · refine z_icmp_geF (tgt := 62) E dX1_cutNet_11 rfl c1 ?_
      refine z_aload_n E 0 dX1_cutNet_14 rfl ?_
      obtain ⟨x2, e3, e⟩ := ob e
      refine z_getR E fl_X1_89 dX1_cutNet_15 e3 ?_
      refine z_iload_n E 2 dX1_cutNet_18 rfl ?_
      refine z_aload_n E 0 dX1_cutNet_19 rfl ?_
      obtain ⟨x4, e5, e⟩ := ob e
      refine z_getR E fl_X1_89 dX1_cutNet_20 e5 ?_
      refine z_iload_n E 2 dX1_cutNet_23 rfl ?_
      refine z_iconst E dX1_cutNet_24 ic_1 ?_
      refine z_iadd E dX1_cutNet_25 ?_
      obtain ⟨x6, e7, e⟩ := ob e
      refine z_iald E dX1_cutNet_26 e7 ?_
      obtain ⟨h8, e9, e⟩ := ob e
      refine z_iast E dX1_cutNet_27 e9 ?_
      refine z_aload_n E 0 dX1_cutNet_28 rfl ?_
      obtain ⟨x10, e11, e⟩ := ob e
      refine z_getR E fl_X1_92 dX1_cutNet_29 e11 ?_
      refine z_iload_n E 2 dX1_cutNet_32 rfl ?_
      refine z_aload_n E 0 dX1_cutNet_33 rfl ?_
      obtain ⟨x12, e13, e⟩ := ob e
      refine z_getR E fl_X1_92 dX1_cutNet_34 e13 ?_
      refine z_iload_n E 2 dX1_cutNet_37 rfl ?_
      refine z_iconst E dX1_cutNet_38 ic_1 ?_
      refine z_iadd E dX1_cutNet_39 ?_
      obtain ⟨x14, e15, e⟩ := ob e
      refine z_iald E dX1_cutNet_40 e15 ?_
      obtain ⟨h16, e17, e⟩ := ob e
      refine z_iast E dX1_cutNet_41 e17 ?_
      refine z_aload_n E 0 dX1_cutNet_42 rfl ?_
      obtain ⟨x18, e19, e⟩ := ob e
      refine z_getR E fl_X1_95 dX1_cutNet_43 e19 ?_
      refine z_iload_n E 2 dX1_cutNet_46 rfl ?_
      refine z_aload_n E 0 dX1_cutNet_47 rfl ?_
      obtain ⟨x20, e21, e⟩ := ob e
      refine z_getR E fl_X1_95 dX1_cutNet_48 e21 ?_
      refine z_iload_n E 2 dX1_cutNet_51 rfl ?_
      refine z_iconst E dX1_cutNet_52 ic_1 ?_
      refine z_iadd E dX1_cutNet_53 ?_
      obtain ⟨x22, e23, e⟩ := ob e
      refine z_iald E dX1_cutNet_54 e23 ?_
      obtain ⟨h24, e25, e⟩ := ob e
      refine z_iast E dX1_cutNet_55 e25 ?_
      refine z_iinc (v := (v3 + (1 : Int32))) (lv2 := [(3, .int (v3 + (1 : Int32))), (0, .ref v0), (2, .int v2)]) E 2 dX1_cutNet_56 rfl (congrArg (v3 + ·) ic_1) (by decide) rfl ?_
      refine z_goto (tgt := 9) E dX1_cutNet_59 rfl ?_
      exact z_sub [1, 2, 0] rfl (ih _ _ _ _ e kk)
noncomputable def f_X1_cutNet (h : PH) (a0 : Nat) (a1 : Int32) : Option (Int32 × PH) :=
  (rdI h a0 9 8).bind fun x1 =>
  (f_X1_cutNet_L9 FV h a0 (x1 - (1 : Int32)) a1).bind fun s3 =>
  (wr s3 a0 9 8 (.int (x1 - (1 : Int32)))).bind fun h5 =>
  some ((x1 - (1 : Int32)), h5)
theorem b_X1_cutNet {X : PX} (E : z_E X cX1_cutNet RX1 "cutNet" 4 rmX1_cutNet (some .int)) (T0 : z_T0 X) {h : PH} {a0 : Nat} {a1 : Int32} {r : (Int32 × PH)} (e : f_X1_cutNet h a0 a1 = some r) (M : z_M X rmX1_cutNet.cells rmX1_cutNet.slots (.inr (some (.int r.1))) r.2) : WP X 4 0 0 0 [(0, .ref a0), (1, .int a1)] [] h := by
  unfold f_X1_cutNet at e
  refine z_aload_n E 0 dX1_cutNet_0 rfl ?_
  obtain ⟨x1, e2, e⟩ := ob e
  refine z_getI E fl_X1_86 dX1_cutNet_1 e2 ?_
  refine z_iconst E dX1_cutNet_4 ic_1 ?_
  refine z_isub E dX1_cutNet_5 ?_
  refine z_istore_n (lv2 := [(2, .int (x1 - (1 : Int32))), (0, .ref a0), (1, .int a1)]) E dX1_cutNet_6 (by decide) rfl ?_
  refine z_iload_n E 2 dX1_cutNet_7 rfl ?_
  refine z_istore_n (lv2 := [(3, .int a1), (2, .int (x1 - (1 : Int32))), (0, .ref a0), (1, .int a1)]) E dX1_cutNet_8 (by decide) rfl ?_
  obtain ⟨s3, e4, e⟩ := ob e
  refine z_sub [2, 1, 0] rfl (b_X1_cutNet_L9 E T0 (by decide) (by decide) FV _ _ _ _ e4 ?_)
  refine z_aload_n E 0 dX1_cutNet_62 rfl ?_
  refine z_iload_n E 1 dX1_cutNet_63 rfl ?_
  obtain ⟨h5, e6, e⟩ := ob e
  refine z_putI E fp_X1_86 (Or.inl rfl) dX1_cutNet_64 e6 ?_
  refine z_iload_n E 1 dX1_cutNet_67 rfl ?_
  obtain rfl := Option.some.inj e
  exact z_iret E M dX1_cutNet_68 rfl rfl rfl rfl (by decide) (by decide)
theorem c_X1_cutNet {l : Launch} (hl : l.stackTraces = false) {h : PH} {a0 : Nat} {a1 : Int32} {r : (Int32 × PH)} (e : f_X1_cutNet h a0 a1 = some r) : CMet l yX1_cutNet (z_W yX1_cutNet cX1_cutNet 4 (some .int)) rmX1_cutNet h [.ref a0, .int a1] (.inr (some (.int r.1))) r.2 :=
  z_met hl Y_X1_cutNet (by decide +kernel) (Nat.le_of_ble_eq_true rfl) (fun X hX E T0 M => b_X1_cutNet E T0 e M)
abbrev rmX7_isCovered : Room := { frames := 0, cells := 0, slots := 0, locals := 0 }
noncomputable def f_X7_isCovered (h : PH) (a0 : Nat) (a1 : Int32) (a2 : Int32) : Option Bool :=
  (rdR h a0 9 9).bind fun x1 =>
  (alI .int h x1 a1).bind fun x3 =>
  (rdR h a0 9 10).bind fun x5 =>
  (alI .int h x5 a1).bind fun x7 =>
  if x7 ≤ (zrem ((a2 - x3) + (12 : Int32)) (12 : Int32)) then
    some false
  else
    some true
theorem b_X7_isCovered {X : PX} (E : z_E X cX7_isCovered RX7 "isCovered" 3 rmX7_isCovered (some .boolean)) (T0 : z_T0 X) {h : PH} {a0 : Nat} {a1 : Int32} {a2 : Int32} {r : Bool} (e : f_X7_isCovered h a0 a1 a2 = some r) (M : z_M X rmX7_isCovered.cells rmX7_isCovered.slots (.inr (some (.int (zb r)))) h) : WP X 3 0 0 0 [(0, .ref a0), (1, .int a1), (2, .int a2)] [] h := by
  unfold f_X7_isCovered at e
  refine z_iload_n E 2 dX7_isCovered_0 rfl ?_
  refine z_aload_n E 0 dX7_isCovered_1 rfl ?_
  obtain ⟨x1, e2, e⟩ := ob e
  refine z_getR E fl_X7_34 dX7_isCovered_2 e2 ?_
  refine z_iload_n E 1 dX7_isCovered_5 rfl ?_
  obtain ⟨x3, e4, e⟩ := ob e
  refine z_iald E dX7_isCovered_6 e4 ?_
  refine z_isub E dX7_isCovered_7 ?_
  refine z_bipush E dX7_isCovered_8 bp_12 ?_
  refine z_iadd E dX7_isCovered_10 ?_
  refine z_bipush E dX7_isCovered_11 bp_12 ?_
  refine z_irem E dX7_isCovered_13 (by decide) ?_
  refine z_aload_n E 0 dX7_isCovered_14 rfl ?_
  obtain ⟨x5, e6, e⟩ := ob e
  refine z_getR E fl_X7_37 dX7_isCovered_15 e6 ?_
  refine z_iload_n E 1 dX7_isCovered_18 rfl ?_
  obtain ⟨x7, e8, e⟩ := ob e
  refine z_iald E dX7_isCovered_19 e8 ?_
  rcases oi e with ⟨c9, e⟩ | ⟨c9, e⟩
  · refine z_icmp_geT (tgt := 27) E dX7_isCovered_20 rfl c9 ?_
    refine z_iconst E dX7_isCovered_27 ic_0 ?_
    obtain rfl := Option.some.inj e
    exact z_iret E M dX7_isCovered_28 rfl rfl rfl rfl (by decide) (by decide)
  · refine z_icmp_geF (tgt := 27) E dX7_isCovered_20 rfl c9 ?_
    refine z_iconst E dX7_isCovered_23 ic_1 ?_
    refine z_goto (tgt := 28) E dX7_isCovered_24 rfl ?_
    obtain rfl := Option.some.inj e
    exact z_iret E M dX7_isCovered_28 rfl rfl rfl rfl (by decide) (by decide)
theorem c_X7_isCovered {l : Launch} (hl : l.stackTraces = false) {h : PH} {a0 : Nat} {a1 : Int32} {a2 : Int32} {r : Bool} (e : f_X7_isCovered h a0 a1 a2 = some r) : CMet l yX7_isCovered (z_W yX7_isCovered cX7_isCovered 3 (some .boolean)) rmX7_isCovered h [.ref a0, .int a1, .int a2] (.inr (some (.int (zb r)))) h :=
  z_met hl Y_X7_isCovered (by decide +kernel) (Nat.le_of_ble_eq_true rfl) (fun X hX E T0 M => b_X7_isCovered E T0 e M)
abbrev rmX7_floatingWithin : Room := { frames := 1, cells := 0, slots := 0, locals := 22 }
noncomputable def f_X7_floatingWithin_L4 : Nat → PH → Nat → Int32 → Int32 → Int32 → Option Int32
  | 0, _, _, _, _, _ => none
  | fu + 1, h, v0, v1, v2, v3 =>
    (rdI h v0 9 0).bind fun x1 =>
    if x1 ≤ v3 then
      some v2
    else
      (rdR h v0 9 3).bind fun x4 =>
      (alI .char h x4 v3).bind fun x6 =>
      if ¬ x6 = (102 : Int32) then
        f_X7_floatingWithin_L4 fu h v0 v1 v2 (v3 + (1 : Int32))
      else
        (rdR h v0 9 1).bind fun x9 =>
        (alI .int h x9 v3).bind fun x11 =>
        (gd h v0 9).bind fun _ =>
        (f_X7_isCovered h v0 v1 x11).bind fun p14 =>
        if p14 = false then
          f_X7_floatingWithin_L4 fu h v0 v1 v2 (v3 + (1 : Int32))
        else
          f_X7_floatingWithin_L4 fu h v0 v1 (v2 ||| (f_X9_bit v3)) (v3 + (1 : Int32))
theorem b_X7_floatingWithin_L4 {X : PX} (E : z_E X cX7_floatingWithin RX7 "floatingWithin" 4 rmX7_floatingWithin (some .int)) (T0 : z_T0 X) {k n : Nat} (hk : k + 0 ≤ rmX7_floatingWithin.cells) (hn : n + 0 ≤ rmX7_floatingWithin.slots) {s : Int32} : ∀ (fu : Nat) (h : PH) (v0 : Nat) (v1 : Int32) (v2 : Int32) (v3 : Int32) (e : f_X7_floatingWithin_L4 fu h v0 v1 v2 v3 = some s) (kk : WP X 4 k n 50 [(2, .int s)] [] h), WP X 4 k n 4 [(0, .ref v0), (1, .int v1), (2, .int v2), (3, .int v3)] [] h := by
  intro fu
  induction fu with
  | zero => intro h v0 v1 v2 v3 e; exact absurd (show (none : Option Int32) = some s from e) (by intro z; cases z)
  | succ fu ih =>
    intro h v0 v1 v2 v3 e kk
    unfold f_X7_floatingWithin_L4 at e
    refine z_iload_n E 3 dX7_floatingWithin_4 rfl ?_
    refine z_aload_n E 0 dX7_floatingWithin_5 rfl ?_
    obtain ⟨x1, e2, e⟩ := ob e
    refine z_getI E fl_X7_53 dX7_floatingWithin_6 e2 ?_
    rcases oi e with ⟨c3, e⟩ | ⟨c3, e⟩
    · refine z_icmp_geT (tgt := 50) E dX7_floatingWithin_9 rfl c3 ?_
      obtain rfl := Option.some.inj e
      exact z_sub [2] rfl kk
    · refine z_icmp_geF (tgt := 50) E dX7_floatingWithin_9 rfl c3 ?_
      refine z_aload_n E 0 dX7_floatingWithin_12 rfl ?_
      obtain ⟨x4, e5, e⟩ := ob e
      refine z_getR E fl_X7_18 dX7_floatingWithin_13 e5 ?_
      refine z_iload_n E 3 dX7_floatingWithin_16 rfl ?_
      obtain ⟨x6, e7, e⟩ := ob e
      refine z_cald E dX7_floatingWithin_17 e7 ?_
      refine z_bipush E dX7_floatingWithin_18 bp_102 ?_
      rcases oi e with ⟨c8, e⟩ | ⟨c8, e⟩
      · refine z_icmp_neT (tgt := 44) E dX7_floatingWithin_20 rfl c8 ?_
        refine z_iinc (v := (v3 + (1 : Int32))) (lv2 := [(3, .int (v3 + (1 : Int32))), (0, .ref v0), (1, .int v1), (2, .int v2)]) E 3 dX7_floatingWithin_44 rfl (congrArg (v3 + ·) ic_1) (by decide) rfl ?_
        refine z_goto (tgt := 4) E dX7_floatingWithin_47 rfl ?_
        exact z_sub [1, 2, 3, 0] rfl (ih _ _ _ _ _ e kk)
      · refine z_icmp_neF (tgt := 44) E dX7_floatingWithin_20 rfl (Classical.not_not.mp c8) ?_
        refine z_aload_n E 0 dX7_floatingWithin_23 rfl ?_
        refine z_iload_n E 1 dX7_floatingWithin_24 rfl ?_
        refine z_aload_n E 0 dX7_floatingWithin_25 rfl ?_
        obtain ⟨x9, e10, e⟩ := ob e
        refine z_getR E fl_X7_9 dX7_floatingWithin_26 e10 ?_
        refine z_iload_n E 3 dX7_floatingWithin_29 rfl ?_
        obtain ⟨x11, e12, e⟩ := ob e
        refine z_iald E dX7_floatingWithin_30 e12 ?_
        obtain ⟨_, e13, e⟩ := ob e
        obtain ⟨p14, e15, e⟩ := ob e
        refine z_kR2 (st := []) (av := [.ref v0, .int v1, .int x11]) E k n (z_rV (st := []) (av := [.int v1, .int x11]) E Y_X7_isCovered k_X7_117 (ci := 9) rfl (c_X7_isCovered (z_El E) e15) dX7_floatingWithin_31 e13 rfl rfl (by decide) (by decide) (zk (k := k) (a := 0) hk (by decide)) (zk (k := n) (a := 0) hn (by decide)) (Nat.zero_le _)) rfl rfl rfl ?_
        rcases oi e with ⟨c16, e⟩ | ⟨c16, e⟩
        · refine z_if_eqT (tgt := 44) E dX7_floatingWithin_34 rfl (zb_f c16) ?_
          refine z_iinc (v := (v3 + (1 : Int32))) (lv2 := [(3, .int (v3 + (1 : Int32))), (0, .ref v0), (1, .int v1), (2, .int v2)]) E 3 dX7_floatingWithin_44 rfl (congrArg (v3 + ·) ic_1) (by decide) rfl ?_
          refine z_goto (tgt := 4) E dX7_floatingWithin_47 rfl ?_
          exact z_sub [1, 2, 3, 0] rfl (ih _ _ _ _ _ e kk)
        · refine z_if_eqF (tgt := 44) E dX7_floatingWithin_34 rfl (zb_nf c16) ?_
          refine z_iload_n E 2 dX7_floatingWithin_37 rfl ?_
          refine z_iload_n E 3 dX7_floatingWithin_38 rfl ?_
          refine z_kR2 (st := [.int v2]) (av := [.int v3]) E k n (z_rSN (st := [.int v2]) (av := [.int v3]) E Y_X9_bit k_X7_91 (c_X9_bit (l := z_l X) (h := h) (z_El E) v3) dX7_floatingWithin_39 rfl rfl (by decide) (by decide) (zk (k := k) (a := 0) hk (by decide)) (zk (k := n) (a := 0) hn (by decide)) (Nat.le_of_ble_eq_true rfl)) rfl rfl rfl ?_
          refine z_ior E dX7_floatingWithin_42 ?_
          refine z_istore_n (lv2 := [(2, .int (v2 ||| (f_X9_bit v3))), (0, .ref v0), (1, .int v1), (3, .int v3)]) E dX7_floatingWithin_43 (by decide) rfl ?_
          refine z_iinc (v := (v3 + (1 : Int32))) (lv2 := [(3, .int (v3 + (1 : Int32))), (2, .int (v2 ||| (f_X9_bit v3))), (0, .ref v0), (1, .int v1)]) E 3 dX7_floatingWithin_44 rfl (congrArg (v3 + ·) ic_1) (by decide) rfl ?_
          refine z_goto (tgt := 4) E dX7_floatingWithin_47 rfl ?_
          exact z_sub [2, 3, 1, 0] rfl (ih _ _ _ _ _ e kk)
noncomputable def f_X7_floatingWithin (h : PH) (a0 : Nat) (a1 : Int32) : Option Int32 :=
  (f_X7_floatingWithin_L4 FV h a0 a1 (0 : Int32) (0 : Int32)).bind fun s1 =>
  some s1
theorem b_X7_floatingWithin {X : PX} (E : z_E X cX7_floatingWithin RX7 "floatingWithin" 4 rmX7_floatingWithin (some .int)) (T0 : z_T0 X) {h : PH} {a0 : Nat} {a1 : Int32} {r : Int32} (e : f_X7_floatingWithin h a0 a1 = some r) (M : z_M X rmX7_floatingWithin.cells rmX7_floatingWithin.slots (.inr (some (.int r))) h) : WP X 4 0 0 0 [(0, .ref a0), (1, .int a1)] [] h := by
  unfold f_X7_floatingWithin at e
  refine z_iconst E dX7_floatingWithin_0 ic_0 ?_
  refine z_istore_n (lv2 := [(2, .int (0 : Int32)), (0, .ref a0), (1, .int a1)]) E dX7_floatingWithin_1 (by decide) rfl ?_
  refine z_iconst E dX7_floatingWithin_2 ic_0 ?_
  refine z_istore_n (lv2 := [(3, .int (0 : Int32)), (2, .int (0 : Int32)), (0, .ref a0), (1, .int a1)]) E dX7_floatingWithin_3 (by decide) rfl ?_
  obtain ⟨s1, e2, e⟩ := ob e
  refine z_sub [2, 3, 1, 0] rfl (b_X7_floatingWithin_L4 E T0 (by decide) (by decide) FV _ _ _ _ _ e2 ?_)
  refine z_iload_n E 0 dX7_floatingWithin_50 rfl ?_
  obtain rfl := Option.some.inj e
  exact z_iret E M dX7_floatingWithin_51 rfl rfl rfl rfl (by decide) (by decide)
theorem c_X7_floatingWithin {l : Launch} (hl : l.stackTraces = false) {h : PH} {a0 : Nat} {a1 : Int32} {r : Int32} (e : f_X7_floatingWithin h a0 a1 = some r) : CMet l yX7_floatingWithin (z_W yX7_floatingWithin cX7_floatingWithin 4 (some .int)) rmX7_floatingWithin h [.ref a0, .int a1] (.inr (some (.int r))) h :=
  z_met hl Y_X7_floatingWithin (by decide +kernel) (Nat.le_of_ble_eq_true rfl) (fun X hX E T0 M => b_X7_floatingWithin E T0 e M)
abbrev rmX7_citedFromSet : Room := { frames := 1, cells := 0, slots := 0, locals := 21 }
noncomputable def f_X7_citedFromSet_L4 : Nat → PH → Nat → Int32 → Int32 → Int32 → Option Int32
  | 0, _, _, _, _, _ => none
  | fu + 1, h, v0, v1, v2, v3 =>
    (rdI h v0 9 0).bind fun x1 =>
    if x1 ≤ v3 then
      some v2
    else
      if (f_X9_has v1 v3) = false then
        f_X7_citedFromSet_L4 fu h v0 v1 v2 (v3 + (1 : Int32))
      else
        (rdR h v0 9 4).bind fun x5 =>
        (alI .int h x5 v3).bind fun x7 =>
        f_X7_citedFromSet_L4 fu h v0 v1 (v2 ||| x7) (v3 + (1 : Int32))
theorem b_X7_citedFromSet_L4 {X : PX} (E : z_E X cX7_citedFromSet RX7 "citedFromSet" 4 rmX7_citedFromSet (some .int)) (T0 : z_T0 X) {k n : Nat} (hk : k + 0 ≤ rmX7_citedFromSet.cells) (hn : n + 0 ≤ rmX7_citedFromSet.slots) {s : Int32} : ∀ (fu : Nat) (h : PH) (v0 : Nat) (v1 : Int32) (v2 : Int32) (v3 : Int32) (e : f_X7_citedFromSet_L4 fu h v0 v1 v2 v3 = some s) (kk : WP X 4 k n 35 [(2, .int s)] [] h), WP X 4 k n 4 [(0, .ref v0), (1, .int v1), (2, .int v2), (3, .int v3)] [] h := by
  intro fu
  induction fu with
  | zero => intro h v0 v1 v2 v3 e; exact absurd (show (none : Option Int32) = some s from e) (by intro z; cases z)
  | succ fu ih =>
    intro h v0 v1 v2 v3 e kk
    unfold f_X7_citedFromSet_L4 at e
    refine z_iload_n E 3 dX7_citedFromSet_4 rfl ?_
    refine z_aload_n E 0 dX7_citedFromSet_5 rfl ?_
    obtain ⟨x1, e2, e⟩ := ob e
    refine z_getI E fl_X7_53 dX7_citedFromSet_6 e2 ?_
    rcases oi e with ⟨c3, e⟩ | ⟨c3, e⟩
    · refine z_icmp_geT (tgt := 35) E dX7_citedFromSet_9 rfl c3 ?_
      obtain rfl := Option.some.inj e
      exact z_sub [2] rfl kk
    · refine z_icmp_geF (tgt := 35) E dX7_citedFromSet_9 rfl c3 ?_
      refine z_iload_n E 1 dX7_citedFromSet_12 rfl ?_
      refine z_iload_n E 3 dX7_citedFromSet_13 rfl ?_
      refine z_kR2 (st := []) (av := [.int v1, .int v3]) E k n (z_rSN (st := []) (av := [.int v1, .int v3]) E Y_X9_has k_X7_104 (c_X9_has (l := z_l X) (h := h) (z_El E) v1 v3) dX7_citedFromSet_14 rfl rfl (by decide) (by decide) (zk (k := k) (a := 0) hk (by decide)) (zk (k := n) (a := 0) hn (by decide)) (Nat.zero_le _)) rfl rfl rfl ?_
      rcases oi e with ⟨c4, e⟩ | ⟨c4, e⟩
      · refine z_if_eqT (tgt := 29) E dX7_citedFromSet_17 rfl (zb_f c4) ?_
        refine z_iinc (v := (v3 + (1 : Int32))) (lv2 := [(3, .int (v3 + (1 : Int32))), (0, .ref v0), (1, .int v1), (2, .int v2)]) E 3 dX7_citedFromSet_29 rfl (congrArg (v3 + ·) ic_1) (by decide) rfl ?_
        refine z_goto (tgt := 4) E dX7_citedFromSet_32 rfl ?_
        exact z_sub [1, 2, 3, 0] rfl (ih _ _ _ _ _ e kk)
      · refine z_if_eqF (tgt := 29) E dX7_citedFromSet_17 rfl (zb_nf c4) ?_
        refine z_iload_n E 2 dX7_citedFromSet_20 rfl ?_
        refine z_aload_n E 0 dX7_citedFromSet_21 rfl ?_
        obtain ⟨x5, e6, e⟩ := ob e
        refine z_getR E fl_X7_22 dX7_citedFromSet_22 e6 ?_
        refine z_iload_n E 3 dX7_citedFromSet_25 rfl ?_
        obtain ⟨x7, e8, e⟩ := ob e
        refine z_iald E dX7_citedFromSet_26 e8 ?_
        refine z_ior E dX7_citedFromSet_27 ?_
        refine z_istore_n (lv2 := [(2, .int (v2 ||| x7)), (0, .ref v0), (1, .int v1), (3, .int v3)]) E dX7_citedFromSet_28 (by decide) rfl ?_
        refine z_iinc (v := (v3 + (1 : Int32))) (lv2 := [(3, .int (v3 + (1 : Int32))), (2, .int (v2 ||| x7)), (0, .ref v0), (1, .int v1)]) E 3 dX7_citedFromSet_29 rfl (congrArg (v3 + ·) ic_1) (by decide) rfl ?_
        refine z_goto (tgt := 4) E dX7_citedFromSet_32 rfl ?_
        exact z_sub [2, 3, 1, 0] rfl (ih _ _ _ _ _ e kk)
noncomputable def f_X7_citedFromSet (h : PH) (a0 : Nat) (a1 : Int32) : Option Int32 :=
  (f_X7_citedFromSet_L4 FV h a0 a1 (0 : Int32) (0 : Int32)).bind fun s1 =>
  some s1
theorem b_X7_citedFromSet {X : PX} (E : z_E X cX7_citedFromSet RX7 "citedFromSet" 4 rmX7_citedFromSet (some .int)) (T0 : z_T0 X) {h : PH} {a0 : Nat} {a1 : Int32} {r : Int32} (e : f_X7_citedFromSet h a0 a1 = some r) (M : z_M X rmX7_citedFromSet.cells rmX7_citedFromSet.slots (.inr (some (.int r))) h) : WP X 4 0 0 0 [(0, .ref a0), (1, .int a1)] [] h := by
  unfold f_X7_citedFromSet at e
  refine z_iconst E dX7_citedFromSet_0 ic_0 ?_
  refine z_istore_n (lv2 := [(2, .int (0 : Int32)), (0, .ref a0), (1, .int a1)]) E dX7_citedFromSet_1 (by decide) rfl ?_
  refine z_iconst E dX7_citedFromSet_2 ic_0 ?_
  refine z_istore_n (lv2 := [(3, .int (0 : Int32)), (2, .int (0 : Int32)), (0, .ref a0), (1, .int a1)]) E dX7_citedFromSet_3 (by decide) rfl ?_
  obtain ⟨s1, e2, e⟩ := ob e
  refine z_sub [2, 3, 1, 0] rfl (b_X7_citedFromSet_L4 E T0 (by decide) (by decide) FV _ _ _ _ _ e2 ?_)
  refine z_iload_n E 0 dX7_citedFromSet_35 rfl ?_
  obtain rfl := Option.some.inj e
  exact z_iret E M dX7_citedFromSet_36 rfl rfl rfl rfl (by decide) (by decide)
theorem c_X7_citedFromSet {l : Launch} (hl : l.stackTraces = false) {h : PH} {a0 : Nat} {a1 : Int32} {r : Int32} (e : f_X7_citedFromSet h a0 a1 = some r) : CMet l yX7_citedFromSet (z_W yX7_citedFromSet cX7_citedFromSet 4 (some .int)) rmX7_citedFromSet h [.ref a0, .int a1] (.inr (some (.int r))) h :=
  z_met hl Y_X7_citedFromSet (by decide +kernel) (Nat.le_of_ble_eq_true rfl) (fun X hX E T0 M => b_X7_citedFromSet E T0 e M)
abbrev rmX7_catchOf : Room := { frames := 2, cells := 0, slots := 0, locals := 45 }
noncomputable def f_X7_catchOf_L11 : Nat → PH → Nat → Int32 → Int32 → Int32 → Int32 → Option Int32
  | 0, _, _, _, _, _, _ => none
  | fu + 1, h, v0, v1, v2, v3, v4 =>
    (rdI h v0 9 0).bind fun x1 =>
    if x1 ≤ v4 then
      some v3
    else
      if (f_X9_has v2 v4) = false then
        f_X7_catchOf_L11 fu h v0 v1 v2 v3 (v4 + (1 : Int32))
      else
        (rdR h v0 9 2).bind fun x5 =>
        (alI .int h x5 v4).bind fun x7 =>
        (rdR h v0 9 11).bind fun x9 =>
        (alI .int h x9 v1).bind fun x11 =>
        if x7 < x11 then
          f_X7_catchOf_L11 fu h v0 v1 v2 v3 (v4 + (1 : Int32))
        else
          f_X7_catchOf_L11 fu h v0 v1 v2 (v3 ||| (f_X9_bit v4)) (v4 + (1 : Int32))
theorem b_X7_catchOf_L11 {X : PX} (E : z_E X cX7_catchOf RX7 "catchOf" 5 rmX7_catchOf (some .int)) (T0 : z_T0 X) {k n : Nat} (hk : k + 0 ≤ rmX7_catchOf.cells) (hn : n + 0 ≤ rmX7_catchOf.slots) {s : Int32} : ∀ (fu : Nat) (h : PH) (v0 : Nat) (v1 : Int32) (v2 : Int32) (v3 : Int32) (v4 : Int32) (e : f_X7_catchOf_L11 fu h v0 v1 v2 v3 v4 = some s) (kk : WP X 5 k n 59 [(0, .ref v0), (2, .int v2), (3, .int s)] [] h), WP X 5 k n 11 [(0, .ref v0), (1, .int v1), (2, .int v2), (3, .int v3), (4, .int v4)] [] h := by
  intro fu
  induction fu with
  | zero => intro h v0 v1 v2 v3 v4 e; exact absurd (show (none : Option Int32) = some s from e) (by intro z; cases z)
  | succ fu ih =>
    intro h v0 v1 v2 v3 v4 e kk
    unfold f_X7_catchOf_L11 at e
    refine z_iload E 4 dX7_catchOf_11 rfl ?_
    refine z_aload_n E 0 dX7_catchOf_13 rfl ?_
    obtain ⟨x1, e2, e⟩ := ob e
    refine z_getI E fl_X7_53 dX7_catchOf_14 e2 ?_
    rcases oi e with ⟨c3, e⟩ | ⟨c3, e⟩
    · refine z_icmp_geT (tgt := 59) E dX7_catchOf_17 rfl c3 ?_
      obtain rfl := Option.some.inj e
      exact z_sub [0, 2, 3] rfl kk
    · refine z_icmp_geF (tgt := 59) E dX7_catchOf_17 rfl c3 ?_
      refine z_iload_n E 2 dX7_catchOf_20 rfl ?_
      refine z_iload E 4 dX7_catchOf_21 rfl ?_
      refine z_kR2 (st := []) (av := [.int v2, .int v4]) E k n (z_rSN (st := []) (av := [.int v2, .int v4]) E Y_X9_has k_X7_104 (c_X9_has (l := z_l X) (h := h) (z_El E) v2 v4) dX7_catchOf_23 rfl rfl (by decide) (by decide) (zk (k := k) (a := 0) hk (by decide)) (zk (k := n) (a := 0) hn (by decide)) (Nat.zero_le _)) rfl rfl rfl ?_
      rcases oi e with ⟨c4, e⟩ | ⟨c4, e⟩
      · refine z_if_eqT (tgt := 53) E dX7_catchOf_26 rfl (zb_f c4) ?_
        refine z_iinc (v := (v4 + (1 : Int32))) (lv2 := [(4, .int (v4 + (1 : Int32))), (0, .ref v0), (1, .int v1), (2, .int v2), (3, .int v3)]) E 4 dX7_catchOf_53 rfl (congrArg (v4 + ·) ic_1) (by decide) rfl ?_
        refine z_goto (tgt := 11) E dX7_catchOf_56 rfl ?_
        exact z_sub [1, 2, 3, 4, 0] rfl (ih _ _ _ _ _ _ e kk)
      · refine z_if_eqF (tgt := 53) E dX7_catchOf_26 rfl (zb_nf c4) ?_
        refine z_aload_n E 0 dX7_catchOf_29 rfl ?_
        obtain ⟨x5, e6, e⟩ := ob e
        refine z_getR E fl_X7_15 dX7_catchOf_30 e6 ?_
        refine z_iload E 4 dX7_catchOf_33 rfl ?_
        obtain ⟨x7, e8, e⟩ := ob e
        refine z_iald E dX7_catchOf_35 e8 ?_
        refine z_aload_n E 0 dX7_catchOf_36 rfl ?_
        obtain ⟨x9, e10, e⟩ := ob e
        refine z_getR E fl_X7_40 dX7_catchOf_37 e10 ?_
        refine z_iload_n E 1 dX7_catchOf_40 rfl ?_
        obtain ⟨x11, e12, e⟩ := ob e
        refine z_iald E dX7_catchOf_41 e12 ?_
        rcases oi e with ⟨c13, e⟩ | ⟨c13, e⟩
        · refine z_icmp_ltT (tgt := 53) E dX7_catchOf_42 rfl c13 ?_
          refine z_iinc (v := (v4 + (1 : Int32))) (lv2 := [(4, .int (v4 + (1 : Int32))), (0, .ref v0), (1, .int v1), (2, .int v2), (3, .int v3)]) E 4 dX7_catchOf_53 rfl (congrArg (v4 + ·) ic_1) (by decide) rfl ?_
          refine z_goto (tgt := 11) E dX7_catchOf_56 rfl ?_
          exact z_sub [1, 2, 3, 4, 0] rfl (ih _ _ _ _ _ _ e kk)
        · refine z_icmp_ltF (tgt := 53) E dX7_catchOf_42 rfl c13 ?_
          refine z_iload_n E 3 dX7_catchOf_45 rfl ?_
          refine z_iload E 4 dX7_catchOf_46 rfl ?_
          refine z_kR2 (st := [.int v3]) (av := [.int v4]) E k n (z_rSN (st := [.int v3]) (av := [.int v4]) E Y_X9_bit k_X7_91 (c_X9_bit (l := z_l X) (h := h) (z_El E) v4) dX7_catchOf_48 rfl rfl (by decide) (by decide) (zk (k := k) (a := 0) hk (by decide)) (zk (k := n) (a := 0) hn (by decide)) (Nat.le_of_ble_eq_true rfl)) rfl rfl rfl ?_
          refine z_ior E dX7_catchOf_51 ?_
          refine z_istore_n (lv2 := [(3, .int (v3 ||| (f_X9_bit v4))), (0, .ref v0), (1, .int v1), (2, .int v2), (4, .int v4)]) E dX7_catchOf_52 (by decide) rfl ?_
          refine z_iinc (v := (v4 + (1 : Int32))) (lv2 := [(4, .int (v4 + (1 : Int32))), (3, .int (v3 ||| (f_X9_bit v4))), (0, .ref v0), (1, .int v1), (2, .int v2)]) E 4 dX7_catchOf_53 rfl (congrArg (v4 + ·) ic_1) (by decide) rfl ?_
          refine z_goto (tgt := 11) E dX7_catchOf_56 rfl ?_
          exact z_sub [2, 3, 4, 1, 0] rfl (ih _ _ _ _ _ _ e kk)
noncomputable def f_X7_catchOf_L62 : Nat → PH → Nat → Int32 → Int32 → Int32 → Option Int32
  | 0, _, _, _, _, _ => none
  | fu + 1, h, v0, v2, v3, v4 =>
    (rdI h v0 9 0).bind fun x1 =>
    if x1 ≤ v4 then
      some v3
    else
      (gd h v0 9).bind fun _ =>
      (f_X7_citedFromSet h v0 v3).bind fun p5 =>
      f_X7_catchOf_L62 fu h v0 v2 (v3 ||| (p5 &&& v2)) (v4 + (1 : Int32))
theorem b_X7_catchOf_L62 {X : PX} (E : z_E X cX7_catchOf RX7 "catchOf" 5 rmX7_catchOf (some .int)) (T0 : z_T0 X) {k n : Nat} (hk : k + 0 ≤ rmX7_catchOf.cells) (hn : n + 0 ≤ rmX7_catchOf.slots) {s : Int32} : ∀ (fu : Nat) (h : PH) (v0 : Nat) (v2 : Int32) (v3 : Int32) (v4 : Int32) (e : f_X7_catchOf_L62 fu h v0 v2 v3 v4 = some s) (kk : WP X 5 k n 87 [(3, .int s)] [] h), WP X 5 k n 62 [(0, .ref v0), (2, .int v2), (3, .int v3), (4, .int v4)] [] h := by
  intro fu
  induction fu with
  | zero => intro h v0 v2 v3 v4 e; exact absurd (show (none : Option Int32) = some s from e) (by intro z; cases z)
  | succ fu ih =>
    intro h v0 v2 v3 v4 e kk
    unfold f_X7_catchOf_L62 at e
    refine z_iload E 3 dX7_catchOf_62 rfl ?_
    refine z_aload_n E 0 dX7_catchOf_64 rfl ?_
    obtain ⟨x1, e2, e⟩ := ob e
    refine z_getI E fl_X7_53 dX7_catchOf_65 e2 ?_
    rcases oi e with ⟨c3, e⟩ | ⟨c3, e⟩
    · refine z_icmp_geT (tgt := 87) E dX7_catchOf_68 rfl c3 ?_
      obtain rfl := Option.some.inj e
      exact z_sub [2] rfl kk
    · refine z_icmp_geF (tgt := 87) E dX7_catchOf_68 rfl c3 ?_
      refine z_iload_n E 2 dX7_catchOf_71 rfl ?_
      refine z_aload_n E 0 dX7_catchOf_72 rfl ?_
      refine z_iload_n E 2 dX7_catchOf_73 rfl ?_
      obtain ⟨_, e4, e⟩ := ob e
      obtain ⟨p5, e6, e⟩ := ob e
      refine z_kR2 (st := [.int v3]) (av := [.ref v0, .int v3]) E k n (z_rV (st := [.int v3]) (av := [.int v3]) E Y_X7_citedFromSet k_X7_114 (ci := 9) rfl (c_X7_citedFromSet (z_El E) e6) dX7_catchOf_74 e4 rfl rfl (by decide) (by decide) (zk (k := k) (a := 0) hk (by decide)) (zk (k := n) (a := 0) hn (by decide)) (Nat.le_of_ble_eq_true rfl)) rfl rfl rfl ?_
      refine z_iload_n E 1 dX7_catchOf_77 rfl ?_
      refine z_iand E dX7_catchOf_78 ?_
      refine z_ior E dX7_catchOf_79 ?_
      refine z_istore_n (lv2 := [(3, .int (v3 ||| (p5 &&& v2))), (0, .ref v0), (2, .int v2), (4, .int v4)]) E dX7_catchOf_80 (by decide) rfl ?_
      refine z_iinc (v := (v4 + (1 : Int32))) (lv2 := [(4, .int (v4 + (1 : Int32))), (3, .int (v3 ||| (p5 &&& v2))), (0, .ref v0), (2, .int v2)]) E 3 dX7_catchOf_81 rfl (congrArg (v4 + ·) ic_1) (by decide) rfl ?_
      refine z_goto (tgt := 62) E dX7_catchOf_84 rfl ?_
      exact z_sub [2, 3, 1, 0] rfl (ih _ _ _ _ _ e kk)
noncomputable def f_X7_catchOf (h : PH) (a0 : Nat) (a1 : Int32) : Option Int32 :=
  (gd h a0 9).bind fun _ =>
  (f_X7_floatingWithin h a0 a1).bind fun p2 =>
  (f_X7_catchOf_L11 FV h a0 a1 p2 (0 : Int32) (0 : Int32)).bind fun s4 =>
  (f_X7_catchOf_L62 FV h a0 p2 s4 (0 : Int32)).bind fun s6 =>
  some s6
theorem b_X7_catchOf {X : PX} (E : z_E X cX7_catchOf RX7 "catchOf" 5 rmX7_catchOf (some .int)) (T0 : z_T0 X) {h : PH} {a0 : Nat} {a1 : Int32} {r : Int32} (e : f_X7_catchOf h a0 a1 = some r) (M : z_M X rmX7_catchOf.cells rmX7_catchOf.slots (.inr (some (.int r))) h) : WP X 5 0 0 0 [(0, .ref a0), (1, .int a1)] [] h := by
  unfold f_X7_catchOf at e
  refine z_aload_n E 0 dX7_catchOf_0 rfl ?_
  refine z_iload_n E 1 dX7_catchOf_1 rfl ?_
  obtain ⟨_, e1, e⟩ := ob e
  obtain ⟨p2, e3, e⟩ := ob e
  refine z_kR2 (st := []) (av := [.ref a0, .int a1]) E 0 0 (z_rV (st := []) (av := [.int a1]) E Y_X7_floatingWithin k_X7_111 (ci := 9) rfl (c_X7_floatingWithin (z_El E) e3) dX7_catchOf_2 e1 rfl rfl (by decide) (by decide) (by decide) (by decide) (Nat.zero_le _)) rfl rfl rfl ?_
  refine z_istore_n (lv2 := [(2, .int p2), (0, .ref a0), (1, .int a1)]) E dX7_catchOf_5 (by decide) rfl ?_
  refine z_iconst E dX7_catchOf_6 ic_0 ?_
  refine z_istore_n (lv2 := [(3, .int (0 : Int32)), (2, .int p2), (0, .ref a0), (1, .int a1)]) E dX7_catchOf_7 (by decide) rfl ?_
  refine z_iconst E dX7_catchOf_8 ic_0 ?_
  refine z_istore (lv2 := [(4, .int (0 : Int32)), (3, .int (0 : Int32)), (2, .int p2), (0, .ref a0), (1, .int a1)]) E dX7_catchOf_9 (by decide) rfl ?_
  obtain ⟨s4, e5, e⟩ := ob e
  refine z_sub [3, 4, 2, 1, 0] rfl (b_X7_catchOf_L11 E T0 (by decide) (by decide) FV _ _ _ _ _ _ e5 ?_)
  refine z_iconst E dX7_catchOf_59 ic_0 ?_
  refine z_istore (lv2 := [(4, .int (0 : Int32)), (0, .ref a0), (2, .int p2), (3, .int s4)]) E dX7_catchOf_60 (by decide) rfl ?_
  obtain ⟨s6, e7, e⟩ := ob e
  refine z_sub [1, 2, 3, 0] rfl (b_X7_catchOf_L62 E T0 (by decide) (by decide) FV _ _ _ _ _ e7 ?_)
  refine z_iload_n E 0 dX7_catchOf_87 rfl ?_
  obtain rfl := Option.some.inj e
  exact z_iret E M dX7_catchOf_88 rfl rfl rfl rfl (by decide) (by decide)
theorem c_X7_catchOf {l : Launch} (hl : l.stackTraces = false) {h : PH} {a0 : Nat} {a1 : Int32} {r : Int32} (e : f_X7_catchOf h a0 a1 = some r) : CMet l yX7_catchOf (z_W yX7_catchOf cX7_catchOf 5 (some .int)) rmX7_catchOf h [.ref a0, .int a1] (.inr (some (.int r))) h :=
  z_met hl Y_X7_catchOf (by decide +kernel) (Nat.le_of_ble_eq_true rfl) (fun X hX E T0 M => b_X7_catchOf E T0 e M)
abbrev rmX1_haulNet : Room := { frames := 3, cells := 0, slots := 0, locals := 69 }
noncomputable def f_X1_haulNet_L8 : Nat → PH → Nat → Int32 → Int32 → Option PH
  | 0, _, _, _, _ => none
  | fu + 1, h, v0, v2, v3 =>
    (rdI h v0 9 0).bind fun x1 =>
    if x1 ≤ v3 then
      some h
    else
      if (f_X9_has v2 v3) = false then
        f_X1_haulNet_L8 fu h v0 v2 (v3 + (1 : Int32))
      else
        (rdR h v0 9 3).bind fun x5 =>
        (asI .char h x5 v3 (104 : Int32)).bind fun h7 =>
        f_X1_haulNet_L8 fu h7 v0 v2 (v3 + (1 : Int32))
theorem b_X1_haulNet_L8 {X : PX} (E : z_E X cX1_haulNet RX1 "haulNet" 4 rmX1_haulNet (some .int)) (T0 : z_T0 X) {k n : Nat} (hk : k + 0 ≤ rmX1_haulNet.cells) (hn : n + 0 ≤ rmX1_haulNet.slots) {s : PH} : ∀ (fu : Nat) (h : PH) (v0 : Nat) (v2 : Int32) (v3 : Int32) (e : f_X1_haulNet_L8 fu h v0 v2 v3 = some s) (kk : WP X 4 k n 38 [(0, .ref v0), (2, .int v2)] [] s), WP X 4 k n 8 [(0, .ref v0), (2, .int v2), (3, .int v3)] [] h := by
  intro fu
  induction fu with
  | zero => intro h v0 v2 v3 e; exact absurd (show (none : Option PH) = some s from e) (by intro z; cases z)
  | succ fu ih =>
    intro h v0 v2 v3 e kk
    unfold f_X1_haulNet_L8 at e
    refine z_iload_n E 2 dX1_haulNet_8 rfl ?_
    refine z_aload_n E 0 dX1_haulNet_9 rfl ?_
    obtain ⟨x1, e2, e⟩ := ob e
    refine z_getI E fl_X1_72 dX1_haulNet_10 e2 ?_
    rcases oi e with ⟨c3, e⟩ | ⟨c3, e⟩
    · refine z_icmp_geT (tgt := 38) E dX1_haulNet_13 rfl c3 ?_
      obtain rfl := Option.some.inj e
      exact z_sub [0, 1] rfl kk
    · refine z_icmp_geF (tgt := 38) E dX1_haulNet_13 rfl c3 ?_
      refine z_iload_n E 1 dX1_haulNet_16 rfl ?_
      refine z_iload_n E 2 dX1_haulNet_17 rfl ?_
      refine z_kR2 (st := []) (av := [.int v2, .int v3]) E k n (z_rSN (st := []) (av := [.int v2, .int v3]) E Y_X9_has k_X1_101 (c_X9_has (l := z_l X) (h := h) (z_El E) v2 v3) dX1_haulNet_18 rfl rfl (by decide) (by decide) (zk (k := k) (a := 0) hk (by decide)) (zk (k := n) (a := 0) hn (by decide)) (Nat.zero_le _)) rfl rfl rfl ?_
      rcases oi e with ⟨c4, e⟩ | ⟨c4, e⟩
      · refine z_if_eqT (tgt := 32) E dX1_haulNet_21 rfl (zb_f c4) ?_
        refine z_iinc (v := (v3 + (1 : Int32))) (lv2 := [(3, .int (v3 + (1 : Int32))), (0, .ref v0), (2, .int v2)]) E 2 dX1_haulNet_32 rfl (congrArg (v3 + ·) ic_1) (by decide) rfl ?_
        refine z_goto (tgt := 8) E dX1_haulNet_35 rfl ?_
        exact z_sub [1, 2, 0] rfl (ih _ _ _ _ e kk)
      · refine z_if_eqF (tgt := 32) E dX1_haulNet_21 rfl (zb_nf c4) ?_
        refine z_aload_n E 0 dX1_haulNet_24 rfl ?_
        obtain ⟨x5, e6, e⟩ := ob e
        refine z_getR E fl_X1_82 dX1_haulNet_25 e6 ?_
        refine z_iload_n E 2 dX1_haulNet_28 rfl ?_
        refine z_bipush E dX1_haulNet_29 bp_104 ?_
        obtain ⟨h7, e8, e⟩ := ob e
        refine z_cast E dX1_haulNet_31 e8 ?_
        refine z_iinc (v := (v3 + (1 : Int32))) (lv2 := [(3, .int (v3 + (1 : Int32))), (0, .ref v0), (2, .int v2)]) E 2 dX1_haulNet_32 rfl (congrArg (v3 + ·) ic_1) (by decide) rfl ?_
        refine z_goto (tgt := 8) E dX1_haulNet_35 rfl ?_
        exact z_sub [1, 2, 0] rfl (ih _ _ _ _ e kk)
noncomputable def f_X1_haulNet (h : PH) (a0 : Nat) (a1 : Int32) : Option (Int32 × PH) :=
  (gd h a0 9).bind fun _ =>
  (f_X7_catchOf h a0 a1).bind fun p2 =>
  (f_X1_haulNet_L8 FV h a0 p2 (0 : Int32)).bind fun s4 =>
  (rdI s4 a0 9 15).bind fun x6 =>
  (wr s4 a0 9 15 (.int (x6 + (f_J6_bitCount_0f7a4 p2)))).bind fun h8 =>
  some ((f_J6_bitCount_0f7a4 p2), h8)
theorem b_X1_haulNet {X : PX} (E : z_E X cX1_haulNet RX1 "haulNet" 4 rmX1_haulNet (some .int)) (T0 : z_T0 X) {h : PH} {a0 : Nat} {a1 : Int32} {r : (Int32 × PH)} (e : f_X1_haulNet h a0 a1 = some r) (M : z_M X rmX1_haulNet.cells rmX1_haulNet.slots (.inr (some (.int r.1))) r.2) : WP X 4 0 0 0 [(0, .ref a0), (1, .int a1)] [] h := by
  unfold f_X1_haulNet at e
  refine z_aload_n E 0 dX1_haulNet_0 rfl ?_
  refine z_iload_n E 1 dX1_haulNet_1 rfl ?_
  obtain ⟨_, e1, e⟩ := ob e
  obtain ⟨p2, e3, e⟩ := ob e
  refine z_kR2 (st := []) (av := [.ref a0, .int a1]) E 0 0 (z_rV (st := []) (av := [.int a1]) E Y_X7_catchOf k_X1_98 (ci := 9) rfl (c_X7_catchOf (z_El E) e3) dX1_haulNet_2 e1 rfl rfl (by decide) (by decide) (by decide) (by decide) (Nat.zero_le _)) rfl rfl rfl ?_
  refine z_istore_n (lv2 := [(2, .int p2), (0, .ref a0), (1, .int a1)]) E dX1_haulNet_5 (by decide) rfl ?_
  refine z_iconst E dX1_haulNet_6 ic_0 ?_
  refine z_istore_n (lv2 := [(3, .int (0 : Int32)), (2, .int p2), (0, .ref a0), (1, .int a1)]) E dX1_haulNet_7 (by decide) rfl ?_
  obtain ⟨s4, e5, e⟩ := ob e
  refine z_sub [2, 1, 0] rfl (b_X1_haulNet_L8 E T0 (by decide) (by decide) FV _ _ _ _ e5 ?_)
  refine z_iload_n E 1 dX1_haulNet_38 rfl ?_
  refine z_kR2 (st := []) (av := [.int p2]) E 0 0 (z_rS (st := []) (av := [.int p2]) E Y_J6_bitCount_0f7a4 k_X1_105 (c_J6_bitCount_0f7a4 (l := z_l X) (h := s4) (z_El E) p2) dX1_haulNet_39 rfl rfl (by decide) (by decide) (by decide) (by decide) (Nat.zero_le _)) rfl rfl rfl ?_
  refine z_istore_n (lv2 := [(3, .int (f_J6_bitCount_0f7a4 p2)), (0, .ref a0), (2, .int p2)]) E dX1_haulNet_42 (by decide) rfl ?_
  refine z_aload_n E 1 dX1_haulNet_43 rfl ?_
  refine z_dup E dX1_haulNet_44 rfl ?_
  obtain ⟨x6, e7, e⟩ := ob e
  refine z_getI E fl_X1_110 dX1_haulNet_45 e7 ?_
  refine z_iload_n E 0 dX1_haulNet_48 rfl ?_
  refine z_iadd E dX1_haulNet_49 ?_
  obtain ⟨h8, e9, e⟩ := ob e
  refine z_putI E fp_X1_110 (Or.inl rfl) dX1_haulNet_50 e9 ?_
  refine z_iload_n E 0 dX1_haulNet_53 rfl ?_
  obtain rfl := Option.some.inj e
  exact z_iret E M dX1_haulNet_54 rfl rfl rfl rfl (by decide) (by decide)
theorem c_X1_haulNet {l : Launch} (hl : l.stackTraces = false) {h : PH} {a0 : Nat} {a1 : Int32} {r : (Int32 × PH)} (e : f_X1_haulNet h a0 a1 = some r) : CMet l yX1_haulNet (z_W yX1_haulNet cX1_haulNet 4 (some .int)) rmX1_haulNet h [.ref a0, .int a1] (.inr (some (.int r.1))) r.2 :=
  z_met hl Y_X1_haulNet (by decide +kernel) (Nat.le_of_ble_eq_true rfl) (fun X hX E T0 M => b_X1_haulNet E T0 e M)
abbrev rmX6_heldOn : Room := { frames := 1, cells := 0, slots := 0, locals := 21 }
noncomputable def f_X6_heldOn_L5 : Nat → PH → Nat → Int32 → Int32 → Int32 → Int32 → Option Int32
  | 0, _, _, _, _, _, _ => none
  | fu + 1, h, v0, v1, v2, v3, v4 =>
    (rdI h v0 9 0).bind fun x1 =>
    if x1 ≤ v4 then
      some v3
    else
      if (f_X9_has v1 v4) = false then
        f_X6_heldOn_L5 fu h v0 v1 v2 v3 (v4 + (1 : Int32))
      else
        (rdR h v0 9 1).bind fun x5 =>
        (alI .int h x5 v4).bind fun x7 =>
        if ¬ x7 = v2 then
          f_X6_heldOn_L5 fu h v0 v1 v2 v3 (v4 + (1 : Int32))
        else
          f_X6_heldOn_L5 fu h v0 v1 v2 (v3 ||| (f_X9_bit v4)) (v4 + (1 : Int32))
theorem b_X6_heldOn_L5 {X : PX} (E : z_E X cX6_heldOn RX6 "heldOn" 5 rmX6_heldOn (some .int)) (T0 : z_T0 X) {k n : Nat} (hk : k + 0 ≤ rmX6_heldOn.cells) (hn : n + 0 ≤ rmX6_heldOn.slots) {s : Int32} : ∀ (fu : Nat) (h : PH) (v0 : Nat) (v1 : Int32) (v2 : Int32) (v3 : Int32) (v4 : Int32) (e : f_X6_heldOn_L5 fu h v0 v1 v2 v3 v4 = some s) (kk : WP X 5 k n 48 [(3, .int s)] [] h), WP X 5 k n 5 [(0, .ref v0), (1, .int v1), (2, .int v2), (3, .int v3), (4, .int v4)] [] h := by
  intro fu
  induction fu with
  | zero => intro h v0 v1 v2 v3 v4 e; exact absurd (show (none : Option Int32) = some s from e) (by intro z; cases z)
  | succ fu ih =>
    intro h v0 v1 v2 v3 v4 e kk
    unfold f_X6_heldOn_L5 at e
    refine z_iload E 4 dX6_heldOn_5 rfl ?_
    refine z_aload_n E 0 dX6_heldOn_7 rfl ?_
    obtain ⟨x1, e2, e⟩ := ob e
    refine z_getI E fl_X6_35 dX6_heldOn_8 e2 ?_
    rcases oi e with ⟨c3, e⟩ | ⟨c3, e⟩
    · refine z_icmp_geT (tgt := 48) E dX6_heldOn_11 rfl c3 ?_
      obtain rfl := Option.some.inj e
      exact z_sub [3] rfl kk
    · refine z_icmp_geF (tgt := 48) E dX6_heldOn_11 rfl c3 ?_
      refine z_iload_n E 1 dX6_heldOn_14 rfl ?_
      refine z_iload E 4 dX6_heldOn_15 rfl ?_
      refine z_kR2 (st := []) (av := [.int v1, .int v4]) E k n (z_rSN (st := []) (av := [.int v1, .int v4]) E Y_X9_has k_X6_39 (c_X9_has (l := z_l X) (h := h) (z_El E) v1 v4) dX6_heldOn_17 rfl rfl (by decide) (by decide) (zk (k := k) (a := 0) hk (by decide)) (zk (k := n) (a := 0) hn (by decide)) (Nat.zero_le _)) rfl rfl rfl ?_
      rcases oi e with ⟨c4, e⟩ | ⟨c4, e⟩
      · refine z_if_eqT (tgt := 42) E dX6_heldOn_20 rfl (zb_f c4) ?_
        refine z_iinc (v := (v4 + (1 : Int32))) (lv2 := [(4, .int (v4 + (1 : Int32))), (0, .ref v0), (1, .int v1), (2, .int v2), (3, .int v3)]) E 4 dX6_heldOn_42 rfl (congrArg (v4 + ·) ic_1) (by decide) rfl ?_
        refine z_goto (tgt := 5) E dX6_heldOn_45 rfl ?_
        exact z_sub [1, 2, 3, 4, 0] rfl (ih _ _ _ _ _ _ e kk)
      · refine z_if_eqF (tgt := 42) E dX6_heldOn_20 rfl (zb_nf c4) ?_
        refine z_aload_n E 0 dX6_heldOn_23 rfl ?_
        obtain ⟨x5, e6, e⟩ := ob e
        refine z_getR E fl_X6_43 dX6_heldOn_24 e6 ?_
        refine z_iload E 4 dX6_heldOn_27 rfl ?_
        obtain ⟨x7, e8, e⟩ := ob e
        refine z_iald E dX6_heldOn_29 e8 ?_
        refine z_iload_n E 2 dX6_heldOn_30 rfl ?_
        rcases oi e with ⟨c9, e⟩ | ⟨c9, e⟩
        · refine z_icmp_neT (tgt := 42) E dX6_heldOn_31 rfl c9 ?_
          refine z_iinc (v := (v4 + (1 : Int32))) (lv2 := [(4, .int (v4 + (1 : Int32))), (0, .ref v0), (1, .int v1), (2, .int v2), (3, .int v3)]) E 4 dX6_heldOn_42 rfl (congrArg (v4 + ·) ic_1) (by decide) rfl ?_
          refine z_goto (tgt := 5) E dX6_heldOn_45 rfl ?_
          exact z_sub [1, 2, 3, 4, 0] rfl (ih _ _ _ _ _ _ e kk)
        · refine z_icmp_neF (tgt := 42) E dX6_heldOn_31 rfl (Classical.not_not.mp c9) ?_
          refine z_iload_n E 3 dX6_heldOn_34 rfl ?_
          refine z_iload E 4 dX6_heldOn_35 rfl ?_
          refine z_kR2 (st := [.int v3]) (av := [.int v4]) E k n (z_rSN (st := [.int v3]) (av := [.int v4]) E Y_X9_bit k_X6_46 (c_X9_bit (l := z_l X) (h := h) (z_El E) v4) dX6_heldOn_37 rfl rfl (by decide) (by decide) (zk (k := k) (a := 0) hk (by decide)) (zk (k := n) (a := 0) hn (by decide)) (Nat.le_of_ble_eq_true rfl)) rfl rfl rfl ?_
          refine z_ior E dX6_heldOn_40 ?_
          refine z_istore_n (lv2 := [(3, .int (v3 ||| (f_X9_bit v4))), (0, .ref v0), (1, .int v1), (2, .int v2), (4, .int v4)]) E dX6_heldOn_41 (by decide) rfl ?_
          refine z_iinc (v := (v4 + (1 : Int32))) (lv2 := [(4, .int (v4 + (1 : Int32))), (3, .int (v3 ||| (f_X9_bit v4))), (0, .ref v0), (1, .int v1), (2, .int v2)]) E 4 dX6_heldOn_42 rfl (congrArg (v4 + ·) ic_1) (by decide) rfl ?_
          refine z_goto (tgt := 5) E dX6_heldOn_45 rfl ?_
          exact z_sub [2, 3, 4, 1, 0] rfl (ih _ _ _ _ _ _ e kk)
noncomputable def f_X6_heldOn (h : PH) (a0 : Nat) (a1 : Int32) (a2 : Int32) : Option Int32 :=
  (f_X6_heldOn_L5 FV h a0 a1 a2 (0 : Int32) (0 : Int32)).bind fun s1 =>
  some s1
theorem b_X6_heldOn {X : PX} (E : z_E X cX6_heldOn RX6 "heldOn" 5 rmX6_heldOn (some .int)) (T0 : z_T0 X) {h : PH} {a0 : Nat} {a1 : Int32} {a2 : Int32} {r : Int32} (e : f_X6_heldOn h a0 a1 a2 = some r) (M : z_M X rmX6_heldOn.cells rmX6_heldOn.slots (.inr (some (.int r))) h) : WP X 5 0 0 0 [(0, .ref a0), (1, .int a1), (2, .int a2)] [] h := by
  unfold f_X6_heldOn at e
  refine z_iconst E dX6_heldOn_0 ic_0 ?_
  refine z_istore_n (lv2 := [(3, .int (0 : Int32)), (0, .ref a0), (1, .int a1), (2, .int a2)]) E dX6_heldOn_1 (by decide) rfl ?_
  refine z_iconst E dX6_heldOn_2 ic_0 ?_
  refine z_istore (lv2 := [(4, .int (0 : Int32)), (3, .int (0 : Int32)), (0, .ref a0), (1, .int a1), (2, .int a2)]) E dX6_heldOn_3 (by decide) rfl ?_
  obtain ⟨s1, e2, e⟩ := ob e
  refine z_sub [2, 3, 4, 1, 0] rfl (b_X6_heldOn_L5 E T0 (by decide) (by decide) FV _ _ _ _ _ _ e2 ?_)
  refine z_iload_n E 0 dX6_heldOn_48 rfl ?_
  obtain rfl := Option.some.inj e
  exact z_iret E M dX6_heldOn_49 rfl rfl rfl rfl (by decide) (by decide)
theorem c_X6_heldOn {l : Launch} (hl : l.stackTraces = false) {h : PH} {a0 : Nat} {a1 : Int32} {a2 : Int32} {r : Int32} (e : f_X6_heldOn h a0 a1 a2 = some r) : CMet l yX6_heldOn (z_W yX6_heldOn cX6_heldOn 5 (some .int)) rmX6_heldOn h [.ref a0, .int a1, .int a2] (.inr (some (.int r))) h :=
  z_met hl Y_X6_heldOn (by decide +kernel) (Nat.le_of_ble_eq_true rfl) (fun X hX E T0 M => b_X6_heldOn E T0 e M)
abbrev rmJ9_max_7cf53 : Room := { frames := 0, cells := 0, slots := 0, locals := 0 }
noncomputable def f_J9_max_7cf53 (a0 : Int32) (a1 : Int32) : Int32 :=
  if a0 < a1 then
    a1
  else
    a0
theorem b_J9_max_7cf53 {X : PX} (E : z_E X cJ9_max_7cf53 RJ9 "max" 2 rmJ9_max_7cf53 (some .int)) (T0 : z_T0 X) {h : PH} {a0 : Int32} {a1 : Int32} {r : Int32} (e : f_J9_max_7cf53 a0 a1 = r) (M : z_M X rmJ9_max_7cf53.cells rmJ9_max_7cf53.slots (.inr (some (.int r))) h) : WP X 2 0 0 0 [(0, .int a0), (1, .int a1)] [] h := by
  unfold f_J9_max_7cf53 at e
  refine z_iload_n E 0 dJ9_max_7cf53_0 rfl ?_
  refine z_iload_n E 1 dJ9_max_7cf53_1 rfl ?_
  rcases oi e with ⟨c1, e⟩ | ⟨c1, e⟩
  · refine z_icmp_ltT (tgt := 9) E dJ9_max_7cf53_2 rfl c1 ?_
    refine z_iload_n E 1 dJ9_max_7cf53_9 rfl ?_
    subst e
    exact z_iret E M dJ9_max_7cf53_10 rfl rfl rfl rfl (by decide) (by decide)
  · refine z_icmp_ltF (tgt := 9) E dJ9_max_7cf53_2 rfl c1 ?_
    refine z_iload_n E 0 dJ9_max_7cf53_5 rfl ?_
    refine z_goto (tgt := 10) E dJ9_max_7cf53_6 rfl ?_
    subst e
    exact z_iret E M dJ9_max_7cf53_10 rfl rfl rfl rfl (by decide) (by decide)
theorem c_J9_max_7cf53 {l : Launch} (hl : l.stackTraces = false) {h : PH} (a0 : Int32) (a1 : Int32) : CMet l yJ9_max_7cf53 (z_W yJ9_max_7cf53 cJ9_max_7cf53 2 (some .int)) rmJ9_max_7cf53 h [.int a0, .int a1] (.inr (some (.int (f_J9_max_7cf53 a0 a1)))) h :=
  z_metF hl Y_J9_max_7cf53 (by decide +kernel) (Nat.le_of_ble_eq_true rfl) (fun X hX E T0 M => b_J9_max_7cf53 E T0 rfl M)
abbrev rmX7_roomOn : Room := { frames := 2, cells := 0, slots := 0, locals := 42 }
noncomputable def f_X7_roomOn (h : PH) (a0 : Nat) (a1 : Int32) : Option Int32 :=
  (gd h a0 9).bind fun _ =>
  (f_X7_presentSeason h a0).bind fun p2 =>
  if ¬ p2 = (2 : Int32) then
    (rdR h a0 9 6).bind fun x5 =>
    (alI .int h x5 a1).bind fun x7 =>
    (rdR h a0 9 7).bind fun x9 =>
    (alI .int h x9 a1).bind fun x11 =>
    some (f_J9_max_7cf53 (x7 - x11) (0 : Int32))
  else
    (rdR h a0 9 6).bind fun x13 =>
    (alI .int h x13 a1).bind fun x15 =>
    (rdR h a0 9 7).bind fun x17 =>
    (alI .int h x17 a1).bind fun x19 =>
    some (f_J9_max_7cf53 (((2 : Int32) * x15) - x19) (0 : Int32))
theorem b_X7_roomOn {X : PX} (E : z_E X cX7_roomOn RX7 "roomOn" 3 rmX7_roomOn (some .int)) (T0 : z_T0 X) {h : PH} {a0 : Nat} {a1 : Int32} {r : Int32} (e : f_X7_roomOn h a0 a1 = some r) (M : z_M X rmX7_roomOn.cells rmX7_roomOn.slots (.inr (some (.int r))) h) : WP X 3 0 0 0 [(0, .ref a0), (1, .int a1)] [] h := by
  unfold f_X7_roomOn at e
  refine z_aload_n E 0 dX7_roomOn_0 rfl ?_
  obtain ⟨_, e1, e⟩ := ob e
  obtain ⟨p2, e3, e⟩ := ob e
  refine z_kR2 (st := []) (av := [.ref a0]) E 0 0 (z_rV (st := []) (av := []) E Y_X7_presentSeason k_X7_87 (ci := 9) rfl (c_X7_presentSeason (z_El E) e3) dX7_roomOn_1 e1 rfl rfl (by decide) (by decide) (by decide) (by decide) (Nat.zero_le _)) rfl rfl rfl ?_
  refine z_iconst E dX7_roomOn_4 ic_2 ?_
  rcases oi e with ⟨c4, e⟩ | ⟨c4, e⟩
  · refine z_icmp_neT (tgt := 19) E dX7_roomOn_5 rfl c4 ?_
    refine z_aload_n E 0 dX7_roomOn_19 rfl ?_
    obtain ⟨x5, e6, e⟩ := ob e
    refine z_getR E fl_X7_28 dX7_roomOn_20 e6 ?_
    refine z_iload_n E 1 dX7_roomOn_23 rfl ?_
    obtain ⟨x7, e8, e⟩ := ob e
    refine z_iald E dX7_roomOn_24 e8 ?_
    refine z_istore_n (lv2 := [(2, .int x7), (0, .ref a0), (1, .int a1)]) E dX7_roomOn_25 (by decide) rfl ?_
    refine z_iload_n E 0 dX7_roomOn_26 rfl ?_
    refine z_aload_n E 1 dX7_roomOn_27 rfl ?_
    obtain ⟨x9, e10, e⟩ := ob e
    refine z_getR E fl_X7_31 dX7_roomOn_28 e10 ?_
    refine z_iload_n E 2 dX7_roomOn_31 rfl ?_
    obtain ⟨x11, e12, e⟩ := ob e
    refine z_iald E dX7_roomOn_32 e12 ?_
    refine z_isub E dX7_roomOn_33 ?_
    refine z_iconst E dX7_roomOn_34 ic_0 ?_
    refine z_kR2 (st := []) (av := [.int (x7 - x11), .int (0 : Int32)]) E 0 0 (z_rS (st := []) (av := [.int (x7 - x11), .int (0 : Int32)]) E Y_J9_max_7cf53 k_X7_108 (c_J9_max_7cf53 (l := z_l X) (h := h) (z_El E) (x7 - x11) (0 : Int32)) dX7_roomOn_35 rfl rfl (by decide) (by decide) (by decide) (by decide) (Nat.zero_le _)) rfl rfl rfl ?_
    obtain rfl := Option.some.inj e
    exact z_iret E M dX7_roomOn_38 rfl rfl rfl rfl (by decide) (by decide)
  · refine z_icmp_neF (tgt := 19) E dX7_roomOn_5 rfl (Classical.not_not.mp c4) ?_
    refine z_iconst E dX7_roomOn_8 ic_2 ?_
    refine z_aload_n E 0 dX7_roomOn_9 rfl ?_
    obtain ⟨x13, e14, e⟩ := ob e
    refine z_getR E fl_X7_28 dX7_roomOn_10 e14 ?_
    refine z_iload_n E 1 dX7_roomOn_13 rfl ?_
    obtain ⟨x15, e16, e⟩ := ob e
    refine z_iald E dX7_roomOn_14 e16 ?_
    refine z_imul E dX7_roomOn_15 ?_
    refine z_goto (tgt := 25) E dX7_roomOn_16 rfl ?_
    refine z_istore_n (lv2 := [(2, .int ((2 : Int32) * x15)), (0, .ref a0), (1, .int a1)]) E dX7_roomOn_25 (by decide) rfl ?_
    refine z_iload_n E 0 dX7_roomOn_26 rfl ?_
    refine z_aload_n E 1 dX7_roomOn_27 rfl ?_
    obtain ⟨x17, e18, e⟩ := ob e
    refine z_getR E fl_X7_31 dX7_roomOn_28 e18 ?_
    refine z_iload_n E 2 dX7_roomOn_31 rfl ?_
    obtain ⟨x19, e20, e⟩ := ob e
    refine z_iald E dX7_roomOn_32 e20 ?_
    refine z_isub E dX7_roomOn_33 ?_
    refine z_iconst E dX7_roomOn_34 ic_0 ?_
    refine z_kR2 (st := []) (av := [.int (((2 : Int32) * x15) - x19), .int (0 : Int32)]) E 0 0 (z_rS (st := []) (av := [.int (((2 : Int32) * x15) - x19), .int (0 : Int32)]) E Y_J9_max_7cf53 k_X7_108 (c_J9_max_7cf53 (l := z_l X) (h := h) (z_El E) (((2 : Int32) * x15) - x19) (0 : Int32)) dX7_roomOn_35 rfl rfl (by decide) (by decide) (by decide) (by decide) (Nat.zero_le _)) rfl rfl rfl ?_
    obtain rfl := Option.some.inj e
    exact z_iret E M dX7_roomOn_38 rfl rfl rfl rfl (by decide) (by decide)
theorem c_X7_roomOn {l : Launch} (hl : l.stackTraces = false) {h : PH} {a0 : Nat} {a1 : Int32} {r : Int32} (e : f_X7_roomOn h a0 a1 = some r) : CMet l yX7_roomOn (z_W yX7_roomOn cX7_roomOn 3 (some .int)) rmX7_roomOn h [.ref a0, .int a1] (.inr (some (.int r))) h :=
  z_met hl Y_X7_roomOn (by decide +kernel) (Nat.le_of_ble_eq_true rfl) (fun X hX E T0 M => b_X7_roomOn E T0 e M)
abbrev rmX6_tryWith : Room := { frames := 1, cells := 0, slots := 0, locals := 21 }
noncomputable def f_X6_tryWith_L3 : Nat → PH → Nat → Int32 → Int32 → Int32 → Option PH
  | 0, _, _, _, _, _ => none
  | fu + 1, h, v0, v1, v2, v4 =>
    if v4 < v1 then
      some h
    else
      (rdR h v0 8 0).bind fun x2 =>
      (alI .int h x2 (v4 - v1)).bind fun x4 =>
      if x4 < 0 then
        f_X6_tryWith_L3 fu h v0 v1 v2 (v4 + (-1 : Int32))
      else
        (rdR h v0 8 0).bind fun x7 =>
        (rdR h v0 8 0).bind fun x9 =>
        (alI .int h x9 v4).bind fun x11 =>
        (asI .int h x7 v4 (f_J9_max_7cf53 x11 (x4 ||| v2))).bind fun h13 =>
        f_X6_tryWith_L3 fu h13 v0 v1 v2 (v4 + (-1 : Int32))
theorem b_X6_tryWith_L3 {X : PX} (E : z_E X cX6_tryWith RX6 "tryWith" 6 rmX6_tryWith none) (T0 : z_T0 X) {k n : Nat} (hk : k + 0 ≤ rmX6_tryWith.cells) (hn : n + 0 ≤ rmX6_tryWith.slots) {s : PH} : ∀ (fu : Nat) (h : PH) (v0 : Nat) (v1 : Int32) (v2 : Int32) (v4 : Int32) (e : f_X6_tryWith_L3 fu h v0 v1 v2 v4 = some s) (kk : WP X 6 k n 52 [] [] s), WP X 6 k n 3 [(0, .ref v0), (1, .int v1), (2, .int v2), (4, .int v4)] [] h := by
  intro fu
  induction fu with
  | zero => intro h v0 v1 v2 v4 e; exact absurd (show (none : Option PH) = some s from e) (by intro z; cases z)
  | succ fu ih =>
    intro h v0 v1 v2 v4 e kk
    unfold f_X6_tryWith_L3 at e
    refine z_iload E 3 dX6_tryWith_3 rfl ?_
    refine z_iload_n E 1 dX6_tryWith_5 rfl ?_
    rcases oi e with ⟨c1, e⟩ | ⟨c1, e⟩
    · refine z_icmp_ltT (tgt := 52) E dX6_tryWith_6 rfl c1 ?_
      obtain rfl := Option.some.inj e
      exact z_sub [] rfl kk
    · refine z_icmp_ltF (tgt := 52) E dX6_tryWith_6 rfl c1 ?_
      refine z_aload_n E 0 dX6_tryWith_9 rfl ?_
      obtain ⟨x2, e3, e⟩ := ob e
      refine z_getR E fl_X6_9 dX6_tryWith_10 e3 ?_
      refine z_iload E 3 dX6_tryWith_13 rfl ?_
      refine z_iload_n E 1 dX6_tryWith_15 rfl ?_
      refine z_isub E dX6_tryWith_16 ?_
      obtain ⟨x4, e5, e⟩ := ob e
      refine z_iald E dX6_tryWith_17 e5 ?_
      refine z_istore (lv2 := [(5, .int x4), (0, .ref v0), (1, .int v1), (2, .int v2), (4, .int v4)]) E dX6_tryWith_18 (by decide) rfl ?_
      refine z_iload E 0 dX6_tryWith_20 rfl ?_
      rcases oi e with ⟨c6, e⟩ | ⟨c6, e⟩
      · refine z_if_ltT (tgt := 46) E dX6_tryWith_22 rfl c6 ?_
        refine z_iinc (v := (v4 + (-1 : Int32))) (lv2 := [(4, .int (v4 + (-1 : Int32))), (5, .int x4), (0, .ref v0), (1, .int v1), (2, .int v2)]) E 4 dX6_tryWith_46 rfl (congrArg (v4 + ·) ic_m1) (by decide) rfl ?_
        refine z_goto (tgt := 3) E dX6_tryWith_49 rfl ?_
        exact z_sub [2, 3, 4, 0] rfl (ih _ _ _ _ _ e kk)
      · refine z_if_ltF (tgt := 46) E dX6_tryWith_22 rfl c6 ?_
        refine z_aload_n E 1 dX6_tryWith_25 rfl ?_
        obtain ⟨x7, e8, e⟩ := ob e
        refine z_getR E fl_X6_9 dX6_tryWith_26 e8 ?_
        refine z_iload E 4 dX6_tryWith_29 rfl ?_
        refine z_aload_n E 1 dX6_tryWith_31 rfl ?_
        obtain ⟨x9, e10, e⟩ := ob e
        refine z_getR E fl_X6_9 dX6_tryWith_32 e10 ?_
        refine z_iload E 4 dX6_tryWith_35 rfl ?_
        obtain ⟨x11, e12, e⟩ := ob e
        refine z_iald E dX6_tryWith_37 e12 ?_
        refine z_iload E 0 dX6_tryWith_38 rfl ?_
        refine z_iload_n E 3 dX6_tryWith_40 rfl ?_
        refine z_ior E dX6_tryWith_41 ?_
        refine z_kR2 (st := [.int v4, .ref x7]) (av := [.int x11, .int (x4 ||| v2)]) E k n (z_rS (st := [.int v4, .ref x7]) (av := [.int x11, .int (x4 ||| v2)]) E Y_J9_max_7cf53 k_X6_71 (c_J9_max_7cf53 (l := z_l X) (h := h) (z_El E) x11 (x4 ||| v2)) dX6_tryWith_42 rfl rfl (by decide) (by decide) (zk (k := k) (a := 0) hk (by decide)) (zk (k := n) (a := 0) hn (by decide)) (Nat.le_of_ble_eq_true rfl)) rfl rfl rfl ?_
        obtain ⟨h13, e14, e⟩ := ob e
        refine z_iast E dX6_tryWith_45 e14 ?_
        refine z_iinc (v := (v4 + (-1 : Int32))) (lv2 := [(4, .int (v4 + (-1 : Int32))), (5, .int x4), (0, .ref v0), (1, .int v1), (2, .int v2)]) E 4 dX6_tryWith_46 rfl (congrArg (v4 + ·) ic_m1) (by decide) rfl ?_
        refine z_goto (tgt := 3) E dX6_tryWith_49 rfl ?_
        exact z_sub [2, 3, 4, 0] rfl (ih _ _ _ _ _ e kk)
noncomputable def f_X6_tryWith (h : PH) (a0 : Nat) (a1 : Int32) (a2 : Int32) (a3 : Int32) : Option PH :=
  (f_X6_tryWith_L3 FV h a0 a1 a2 a3).bind fun s1 =>
  some s1
theorem b_X6_tryWith {X : PX} (E : z_E X cX6_tryWith RX6 "tryWith" 6 rmX6_tryWith none) (T0 : z_T0 X) {h : PH} {a0 : Nat} {a1 : Int32} {a2 : Int32} {a3 : Int32} {r : PH} (e : f_X6_tryWith h a0 a1 a2 a3 = some r) (M : z_M X rmX6_tryWith.cells rmX6_tryWith.slots (.inr none) r) : WP X 6 0 0 0 [(0, .ref a0), (1, .int a1), (2, .int a2), (3, .int a3)] [] h := by
  unfold f_X6_tryWith at e
  refine z_iload_n E 3 dX6_tryWith_0 rfl ?_
  refine z_istore (lv2 := [(4, .int a3), (0, .ref a0), (1, .int a1), (2, .int a2), (3, .int a3)]) E dX6_tryWith_1 (by decide) rfl ?_
  obtain ⟨s1, e2, e⟩ := ob e
  refine z_sub [1, 2, 3, 0] rfl (b_X6_tryWith_L3 E T0 (by decide) (by decide) FV _ _ _ _ _ e2 ?_)
  obtain rfl := Option.some.inj e
  exact z_vret E M dX6_tryWith_52 rfl rfl rfl (by decide) (by decide)
theorem c_X6_tryWith {l : Launch} (hl : l.stackTraces = false) {h : PH} {a0 : Nat} {a1 : Int32} {a2 : Int32} {a3 : Int32} {r : PH} (e : f_X6_tryWith h a0 a1 a2 a3 = some r) : CMet l yX6_tryWith (z_W yX6_tryWith cX6_tryWith 6 none) rmX6_tryWith h [.ref a0, .int a1, .int a2, .int a3] (.inr none) r :=
  z_met hl Y_X6_tryWith (by decide +kernel) (Nat.le_of_ble_eq_true rfl) (fun X hX E T0 M => b_X6_tryWith E T0 e M)
abbrev rmX6_turned : Room := { frames := 1, cells := 0, slots := 0, locals := 21 }
noncomputable def f_X6_turned_L4 : Nat → Int32 → Int32 → Int32 → Option Int32
  | 0, _, _, _ => none
  | fu + 1, v0, v1, v2 =>
    if (10 : Int32) ≤ v2 then
      some v1
    else
      if (f_X9_has v0 ((9 : Int32) - v2)) = false then
        f_X6_turned_L4 fu v0 v1 (v2 + (1 : Int32))
      else
        f_X6_turned_L4 fu v0 (v1 ||| (f_X9_bit v2)) (v2 + (1 : Int32))
theorem b_X6_turned_L4 {X : PX} (E : z_E X cX6_turned RX6 "turned" 3 rmX6_turned (some .int)) (T0 : z_T0 X) {h : PH} {k n : Nat} (hk : k + 0 ≤ rmX6_turned.cells) (hn : n + 0 ≤ rmX6_turned.slots) {s : Int32} : ∀ (fu : Nat) (v0 : Int32) (v1 : Int32) (v2 : Int32) (e : f_X6_turned_L4 fu v0 v1 v2 = some s) (kk : WP X 3 k n 34 [(1, .int s)] [] h), WP X 3 k n 4 [(0, .int v0), (1, .int v1), (2, .int v2)] [] h := by
  intro fu
  induction fu with
  | zero => intro v0 v1 v2 e; exact absurd (show (none : Option Int32) = some s from e) (by intro z; cases z)
  | succ fu ih =>
    intro v0 v1 v2 e kk
    unfold f_X6_turned_L4 at e
    refine z_iload_n E 2 dX6_turned_4 rfl ?_
    refine z_bipush E dX6_turned_5 bp_10 ?_
    rcases oi e with ⟨c1, e⟩ | ⟨c1, e⟩
    · refine z_icmp_geT (tgt := 34) E dX6_turned_7 rfl c1 ?_
      obtain rfl := Option.some.inj e
      exact z_sub [1] rfl kk
    · refine z_icmp_geF (tgt := 34) E dX6_turned_7 rfl c1 ?_
      refine z_iload_n E 0 dX6_turned_10 rfl ?_
      refine z_bipush E dX6_turned_11 bp_9 ?_
      refine z_iload_n E 2 dX6_turned_13 rfl ?_
      refine z_isub E dX6_turned_14 ?_
      refine z_kR2 (st := []) (av := [.int v0, .int ((9 : Int32) - v2)]) E k n (z_rSN (st := []) (av := [.int v0, .int ((9 : Int32) - v2)]) E Y_X9_has k_X6_39 (c_X9_has (l := z_l X) (h := h) (z_El E) v0 ((9 : Int32) - v2)) dX6_turned_15 rfl rfl (by decide) (by decide) (zk (k := k) (a := 0) hk (by decide)) (zk (k := n) (a := 0) hn (by decide)) (Nat.zero_le _)) rfl rfl rfl ?_
      rcases oi e with ⟨c2, e⟩ | ⟨c2, e⟩
      · refine z_if_eqT (tgt := 28) E dX6_turned_18 rfl (zb_f c2) ?_
        refine z_iinc (v := (v2 + (1 : Int32))) (lv2 := [(2, .int (v2 + (1 : Int32))), (0, .int v0), (1, .int v1)]) E 2 dX6_turned_28 rfl (congrArg (v2 + ·) ic_1) (by decide) rfl ?_
        refine z_goto (tgt := 4) E dX6_turned_31 rfl ?_
        exact z_sub [1, 2, 0] rfl (ih _ _ _ e kk)
      · refine z_if_eqF (tgt := 28) E dX6_turned_18 rfl (zb_nf c2) ?_
        refine z_iload_n E 1 dX6_turned_21 rfl ?_
        refine z_iload_n E 2 dX6_turned_22 rfl ?_
        refine z_kR2 (st := [.int v1]) (av := [.int v2]) E k n (z_rSN (st := [.int v1]) (av := [.int v2]) E Y_X9_bit k_X6_46 (c_X9_bit (l := z_l X) (h := h) (z_El E) v2) dX6_turned_23 rfl rfl (by decide) (by decide) (zk (k := k) (a := 0) hk (by decide)) (zk (k := n) (a := 0) hn (by decide)) (Nat.le_of_ble_eq_true rfl)) rfl rfl rfl ?_
        refine z_ior E dX6_turned_26 ?_
        refine z_istore_n (lv2 := [(1, .int (v1 ||| (f_X9_bit v2))), (0, .int v0), (2, .int v2)]) E dX6_turned_27 (by decide) rfl ?_
        refine z_iinc (v := (v2 + (1 : Int32))) (lv2 := [(2, .int (v2 + (1 : Int32))), (1, .int (v1 ||| (f_X9_bit v2))), (0, .int v0)]) E 2 dX6_turned_28 rfl (congrArg (v2 + ·) ic_1) (by decide) rfl ?_
        refine z_goto (tgt := 4) E dX6_turned_31 rfl ?_
        exact z_sub [2, 1, 0] rfl (ih _ _ _ e kk)
noncomputable def f_X6_turned (a0 : Int32) : Option Int32 :=
  (f_X6_turned_L4 FV a0 (0 : Int32) (0 : Int32)).bind fun s1 =>
  some s1
theorem b_X6_turned {X : PX} (E : z_E X cX6_turned RX6 "turned" 3 rmX6_turned (some .int)) (T0 : z_T0 X) {h : PH} {a0 : Int32} {r : Int32} (e : f_X6_turned a0 = some r) (M : z_M X rmX6_turned.cells rmX6_turned.slots (.inr (some (.int r))) h) : WP X 3 0 0 0 [(0, .int a0)] [] h := by
  unfold f_X6_turned at e
  refine z_iconst E dX6_turned_0 ic_0 ?_
  refine z_istore_n (lv2 := [(1, .int (0 : Int32)), (0, .int a0)]) E dX6_turned_1 (by decide) rfl ?_
  refine z_iconst E dX6_turned_2 ic_0 ?_
  refine z_istore_n (lv2 := [(2, .int (0 : Int32)), (1, .int (0 : Int32)), (0, .int a0)]) E dX6_turned_3 (by decide) rfl ?_
  obtain ⟨s1, e2, e⟩ := ob e
  refine z_sub [2, 1, 0] rfl (b_X6_turned_L4 E T0 (by decide) (by decide) FV _ _ _ e2 ?_)
  refine z_iload_n E 0 dX6_turned_34 rfl ?_
  obtain rfl := Option.some.inj e
  exact z_iret E M dX6_turned_35 rfl rfl rfl rfl (by decide) (by decide)
theorem c_X6_turned {l : Launch} (hl : l.stackTraces = false) {h : PH} {a0 : Int32} {r : Int32} (e : f_X6_turned a0 = some r) : CMet l yX6_turned (z_W yX6_turned cX6_turned 3 (some .int)) rmX6_turned h [.int a0] (.inr (some (.int r))) h :=
  z_met hl Y_X6_turned (by decide +kernel) (Nat.le_of_ble_eq_true rfl) (fun X hX E T0 M => b_X6_turned E T0 e M)
abbrev rmX6_chooseFrom : Room := { frames := 2, cells := 0, slots := 0, locals := 46 }
noncomputable def f_X6_chooseFrom_L27 : Nat → PH → Nat → Nat → Int32 → Int32 → Int32 → Option PH
  | 0, _, _, _, _, _, _ => none
  | fu + 1, h, v0, v1, v2, v4, v5 =>
    (rdI h v1 9 0).bind fun x1 =>
    if x1 ≤ v5 then
      some h
    else
      if (f_X9_has v2 v5) = false then
        f_X6_chooseFrom_L27 fu h v0 v1 v2 v4 (v5 + (1 : Int32))
      else
        (rdR h v1 9 2).bind fun x5 =>
        (alI .int h x5 v5).bind fun x7 =>
        (gd h v0 8).bind fun _ =>
        (f_X6_tryWith h v0 x7 (f_X9_bit ((9 : Int32) - v5)) v4).bind fun p10 =>
        f_X6_chooseFrom_L27 fu p10 v0 v1 v2 v4 (v5 + (1 : Int32))
theorem b_X6_chooseFrom_L27 {X : PX} (E : z_E X cX6_chooseFrom RX6 "chooseFrom" 6 rmX6_chooseFrom (some .int)) (T0 : z_T0 X) {k n : Nat} (hk : k + 0 ≤ rmX6_chooseFrom.cells) (hn : n + 0 ≤ rmX6_chooseFrom.slots) {s : PH} : ∀ (fu : Nat) (h : PH) (v0 : Nat) (v1 : Nat) (v2 : Int32) (v4 : Int32) (v5 : Int32) (e : f_X6_chooseFrom_L27 fu h v0 v1 v2 v4 v5 = some s) (kk : WP X 6 k n 72 [(0, .ref v0), (4, .int v4)] [] s), WP X 6 k n 27 [(0, .ref v0), (1, .ref v1), (2, .int v2), (4, .int v4), (5, .int v5)] [] h := by
  intro fu
  induction fu with
  | zero => intro h v0 v1 v2 v4 v5 e; exact absurd (show (none : Option PH) = some s from e) (by intro z; cases z)
  | succ fu ih =>
    intro h v0 v1 v2 v4 v5 e kk
    unfold f_X6_chooseFrom_L27 at e
    refine z_iload E 4 dX6_chooseFrom_27 rfl ?_
    refine z_aload_n E 1 dX6_chooseFrom_29 rfl ?_
    obtain ⟨x1, e2, e⟩ := ob e
    refine z_getI E fl_X6_35 dX6_chooseFrom_30 e2 ?_
    rcases oi e with ⟨c3, e⟩ | ⟨c3, e⟩
    · refine z_icmp_geT (tgt := 72) E dX6_chooseFrom_33 rfl c3 ?_
      obtain rfl := Option.some.inj e
      exact z_sub [0, 3] rfl kk
    · refine z_icmp_geF (tgt := 72) E dX6_chooseFrom_33 rfl c3 ?_
      refine z_iload_n E 2 dX6_chooseFrom_36 rfl ?_
      refine z_iload E 4 dX6_chooseFrom_37 rfl ?_
      refine z_kR2 (st := []) (av := [.int v2, .int v5]) E k n (z_rSN (st := []) (av := [.int v2, .int v5]) E Y_X9_has k_X6_39 (c_X9_has (l := z_l X) (h := h) (z_El E) v2 v5) dX6_chooseFrom_39 rfl rfl (by decide) (by decide) (zk (k := k) (a := 0) hk (by decide)) (zk (k := n) (a := 0) hn (by decide)) (Nat.zero_le _)) rfl rfl rfl ?_
      rcases oi e with ⟨c4, e⟩ | ⟨c4, e⟩
      · refine z_if_eqT (tgt := 66) E dX6_chooseFrom_42 rfl (zb_f c4) ?_
        refine z_iinc (v := (v5 + (1 : Int32))) (lv2 := [(5, .int (v5 + (1 : Int32))), (0, .ref v0), (1, .ref v1), (2, .int v2), (4, .int v4)]) E 4 dX6_chooseFrom_66 rfl (congrArg (v5 + ·) ic_1) (by decide) rfl ?_
        refine z_goto (tgt := 27) E dX6_chooseFrom_69 rfl ?_
        exact z_sub [1, 2, 3, 4, 0] rfl (ih _ _ _ _ _ _ e kk)
      · refine z_if_eqF (tgt := 66) E dX6_chooseFrom_42 rfl (zb_nf c4) ?_
        refine z_aload_n E 0 dX6_chooseFrom_45 rfl ?_
        refine z_aload_n E 1 dX6_chooseFrom_46 rfl ?_
        obtain ⟨x5, e6, e⟩ := ob e
        refine z_getR E fl_X6_61 dX6_chooseFrom_47 e6 ?_
        refine z_iload E 4 dX6_chooseFrom_50 rfl ?_
        obtain ⟨x7, e8, e⟩ := ob e
        refine z_iald E dX6_chooseFrom_52 e8 ?_
        refine z_bipush E dX6_chooseFrom_53 bp_9 ?_
        refine z_iload E 4 dX6_chooseFrom_55 rfl ?_
        refine z_isub E dX6_chooseFrom_57 ?_
        refine z_kR2 (st := [.int x7, .ref v0]) (av := [.int ((9 : Int32) - v5)]) E k n (z_rSN (st := [.int x7, .ref v0]) (av := [.int ((9 : Int32) - v5)]) E Y_X9_bit k_X6_46 (c_X9_bit (l := z_l X) (h := h) (z_El E) ((9 : Int32) - v5)) dX6_chooseFrom_58 rfl rfl (by decide) (by decide) (zk (k := k) (a := 0) hk (by decide)) (zk (k := n) (a := 0) hn (by decide)) (Nat.le_of_ble_eq_true rfl)) rfl rfl rfl ?_
        refine z_iload E 3 dX6_chooseFrom_61 rfl ?_
        obtain ⟨_, e9, e⟩ := ob e
        obtain ⟨p10, e11, e⟩ := ob e
        refine z_kV2 (st := []) (av := [.ref v0, .int x7, .int (f_X9_bit ((9 : Int32) - v5)), .int v4]) E k n (z_rV (st := []) (av := [.int x7, .int (f_X9_bit ((9 : Int32) - v5)), .int v4]) E Y_X6_tryWith k_X6_64 (ci := 8) rfl (c_X6_tryWith (z_El E) e11) dX6_chooseFrom_63 e9 rfl rfl (by decide) (by decide) (zk (k := k) (a := 0) hk (by decide)) (zk (k := n) (a := 0) hn (by decide)) (Nat.zero_le _)) rfl rfl rfl ?_
        refine z_iinc (v := (v5 + (1 : Int32))) (lv2 := [(5, .int (v5 + (1 : Int32))), (0, .ref v0), (1, .ref v1), (2, .int v2), (4, .int v4)]) E 4 dX6_chooseFrom_66 rfl (congrArg (v5 + ·) ic_1) (by decide) rfl ?_
        refine z_goto (tgt := 27) E dX6_chooseFrom_69 rfl ?_
        exact z_sub [1, 2, 3, 4, 0] rfl (ih _ _ _ _ _ _ e kk)
noncomputable def f_X6_chooseFrom_L76 : Nat → PH → Nat → Int32 → Option Int32
  | 0, _, _, _ => none
  | fu + 1, h, v0, v5 =>
    if v5 ≤ 0 then
      some v5
    else
      (rdR h v0 8 0).bind fun x2 =>
      (alI .int h x2 v5).bind fun x4 =>
      if 0 ≤ x4 then
        some v5
      else
        f_X6_chooseFrom_L76 fu h v0 (v5 + (-1 : Int32))
theorem b_X6_chooseFrom_L76 {X : PX} (E : z_E X cX6_chooseFrom RX6 "chooseFrom" 6 rmX6_chooseFrom (some .int)) (T0 : z_T0 X) {k n : Nat} (hk : k + 0 ≤ rmX6_chooseFrom.cells) (hn : n + 0 ≤ rmX6_chooseFrom.slots) {s : Int32} : ∀ (fu : Nat) (h : PH) (v0 : Nat) (v5 : Int32) (e : f_X6_chooseFrom_L76 fu h v0 v5 = some s) (kk : WP X 6 k n 97 [(0, .ref v0), (5, .int s)] [] h), WP X 6 k n 76 [(0, .ref v0), (5, .int v5)] [] h := by
  intro fu
  induction fu with
  | zero => intro h v0 v5 e; exact absurd (show (none : Option Int32) = some s from e) (by intro z; cases z)
  | succ fu ih =>
    intro h v0 v5 e kk
    unfold f_X6_chooseFrom_L76 at e
    refine z_iload E 1 dX6_chooseFrom_76 rfl ?_
    rcases oi e with ⟨c1, e⟩ | ⟨c1, e⟩
    · refine z_if_leT (tgt := 97) E dX6_chooseFrom_78 rfl c1 ?_
      obtain rfl := Option.some.inj e
      exact z_sub [0, 1] rfl kk
    · refine z_if_leF (tgt := 97) E dX6_chooseFrom_78 rfl c1 ?_
      refine z_aload_n E 0 dX6_chooseFrom_81 rfl ?_
      obtain ⟨x2, e3, e⟩ := ob e
      refine z_getR E fl_X6_9 dX6_chooseFrom_82 e3 ?_
      refine z_iload E 1 dX6_chooseFrom_85 rfl ?_
      obtain ⟨x4, e5, e⟩ := ob e
      refine z_iald E dX6_chooseFrom_87 e5 ?_
      rcases oi e with ⟨c6, e⟩ | ⟨c6, e⟩
      · refine z_if_geT (tgt := 97) E dX6_chooseFrom_88 rfl c6 ?_
        obtain rfl := Option.some.inj e
        exact z_sub [0, 1] rfl kk
      · refine z_if_geF (tgt := 97) E dX6_chooseFrom_88 rfl c6 ?_
        refine z_iinc (v := (v5 + (-1 : Int32))) (lv2 := [(5, .int (v5 + (-1 : Int32))), (0, .ref v0)]) E 1 dX6_chooseFrom_91 rfl (congrArg (v5 + ·) ic_m1) (by decide) rfl ?_
        refine z_goto (tgt := 76) E dX6_chooseFrom_94 rfl ?_
        exact z_sub [1, 0] rfl (ih _ _ _ e kk)
noncomputable def f_X6_chooseFrom (h : PH) (a0 : Nat) (a1 : Nat) (a2 : Int32) (a3 : Int32) : Option (Int32 × PH) :=
  (rdR h a0 8 0).bind fun x1 =>
  (f_J7_fill_53178 h x1 (-1 : Int32)).bind fun p3 =>
  (rdR p3 a0 8 0).bind fun x5 =>
  (asI .int p3 x5 (0 : Int32) (0 : Int32)).bind fun h7 =>
  (f_X6_chooseFrom_L27 FV h7 a0 a1 a2 (f_J9_min_7cf53 a3 (198 : Int32)) (0 : Int32)).bind fun s9 =>
  (f_X6_chooseFrom_L76 FV s9 a0 (f_J9_min_7cf53 a3 (198 : Int32))).bind fun s11 =>
  (rdR s9 a0 8 0).bind fun x13 =>
  (alI .int s9 x13 s11).bind fun x15 =>
  (f_X6_turned x15).bind fun p17 =>
  some (p17, s9)
theorem b_X6_chooseFrom {X : PX} (E : z_E X cX6_chooseFrom RX6 "chooseFrom" 6 rmX6_chooseFrom (some .int)) (T0 : z_T0 X) {h : PH} {a0 : Nat} {a1 : Nat} {a2 : Int32} {a3 : Int32} {r : (Int32 × PH)} (e : f_X6_chooseFrom h a0 a1 a2 a3 = some r) (M : z_M X rmX6_chooseFrom.cells rmX6_chooseFrom.slots (.inr (some (.int r.1))) r.2) : WP X 6 0 0 0 [(0, .ref a0), (1, .ref a1), (2, .int a2), (3, .int a3)] [] h := by
  unfold f_X6_chooseFrom at e
  refine z_iload_n E 3 dX6_chooseFrom_0 rfl ?_
  refine z_sipush E dX6_chooseFrom_1 sp_198 ?_
  refine z_kR2 (st := []) (av := [.int a3, .int (198 : Int32)]) E 0 0 (z_rS (st := []) (av := [.int a3, .int (198 : Int32)]) E Y_J9_min_7cf53 k_X6_49 (c_J9_min_7cf53 (l := z_l X) (h := h) (z_El E) a3 (198 : Int32)) dX6_chooseFrom_4 rfl rfl (by decide) (by decide) (by decide) (by decide) (Nat.zero_le _)) rfl rfl rfl ?_
  refine z_istore (lv2 := [(4, .int (f_J9_min_7cf53 a3 (198 : Int32))), (0, .ref a0), (1, .ref a1), (2, .int a2), (3, .int a3)]) E dX6_chooseFrom_7 (by decide) rfl ?_
  refine z_aload_n E 1 dX6_chooseFrom_9 rfl ?_
  obtain ⟨x1, e2, e⟩ := ob e
  refine z_getR E fl_X6_9 dX6_chooseFrom_10 e2 ?_
  refine z_iconst E dX6_chooseFrom_13 ic_m1 ?_
  obtain ⟨p3, e4, e⟩ := ob e
  refine z_kV2 (st := []) (av := [.ref x1, .int (-1 : Int32)]) E 0 0 (z_rS (st := []) (av := [.ref x1, .int (-1 : Int32)]) E Y_J7_fill_53178 k_X6_55 (c_J7_fill_53178 (z_El E) e4) dX6_chooseFrom_14 rfl rfl (by decide) (by decide) (by decide) (by decide) (Nat.zero_le _)) rfl rfl rfl ?_
  refine z_aload_n E 1 dX6_chooseFrom_17 rfl ?_
  obtain ⟨x5, e6, e⟩ := ob e
  refine z_getR E fl_X6_9 dX6_chooseFrom_18 e6 ?_
  refine z_iconst E dX6_chooseFrom_21 ic_0 ?_
  refine z_iconst E dX6_chooseFrom_22 ic_0 ?_
  obtain ⟨h7, e8, e⟩ := ob e
  refine z_iast E dX6_chooseFrom_23 e8 ?_
  refine z_iconst E dX6_chooseFrom_24 ic_0 ?_
  refine z_istore (lv2 := [(5, .int (0 : Int32)), (4, .int (f_J9_min_7cf53 a3 (198 : Int32))), (0, .ref a0), (1, .ref a1), (2, .int a2), (3, .int a3)]) E dX6_chooseFrom_25 (by decide) rfl ?_
  obtain ⟨s9, e10, e⟩ := ob e
  refine z_sub [2, 3, 4, 1, 0] rfl (b_X6_chooseFrom_L27 E T0 (by decide) (by decide) FV _ _ _ _ _ _ e10 ?_)
  refine z_iload E 1 dX6_chooseFrom_72 rfl ?_
  refine z_istore (lv2 := [(5, .int (f_J9_min_7cf53 a3 (198 : Int32))), (0, .ref a0), (4, .int (f_J9_min_7cf53 a3 (198 : Int32)))]) E dX6_chooseFrom_74 (by decide) rfl ?_
  obtain ⟨s11, e12, e⟩ := ob e
  refine z_sub [1, 0] rfl (b_X6_chooseFrom_L76 E T0 (by decide) (by decide) FV _ _ _ e12 ?_)
  refine z_aload_n E 0 dX6_chooseFrom_97 rfl ?_
  obtain ⟨x13, e14, e⟩ := ob e
  refine z_getR E fl_X6_9 dX6_chooseFrom_98 e14 ?_
  refine z_iload E 1 dX6_chooseFrom_101 rfl ?_
  obtain ⟨x15, e16, e⟩ := ob e
  refine z_iald E dX6_chooseFrom_103 e16 ?_
  obtain ⟨p17, e18, e⟩ := ob e
  refine z_kR2 (st := []) (av := [.int x15]) E 0 0 (z_rS (st := []) (av := [.int x15]) E Y_X6_turned k_X6_68 (c_X6_turned (z_El E) e18) dX6_chooseFrom_104 rfl rfl (by decide) (by decide) (by decide) (by decide) (Nat.zero_le _)) rfl rfl rfl ?_
  obtain rfl := Option.some.inj e
  exact z_iret E M dX6_chooseFrom_107 rfl rfl rfl rfl (by decide) (by decide)
theorem c_X6_chooseFrom {l : Launch} (hl : l.stackTraces = false) {h : PH} {a0 : Nat} {a1 : Nat} {a2 : Int32} {a3 : Int32} {r : (Int32 × PH)} (e : f_X6_chooseFrom h a0 a1 a2 a3 = some r) : CMet l yX6_chooseFrom (z_W yX6_chooseFrom cX6_chooseFrom 6 (some .int)) rmX6_chooseFrom h [.ref a0, .ref a1, .int a2, .int a3] (.inr (some (.int r.1))) r.2 :=
  z_met hl Y_X6_chooseFrom (by decide +kernel) (Nat.le_of_ble_eq_true rfl) (fun X hX E T0 M => b_X6_chooseFrom E T0 e M)
abbrev rmX6_choose : Room := { frames := 3, cells := 0, slots := 0, locals := 71 }
noncomputable def f_X6_choose_L12 : Nat → PH → Nat → Nat → Int32 → Int32 → Int32 → Option (Int32 × PH)
  | 0, _, _, _, _, _, _ => none
  | fu + 1, h, v0, v1, v2, v3, v4 =>
    if (12 : Int32) ≤ v4 then
      some (v3, h)
    else
      if v2 = 0 then
        some (v3, h)
      else
        (f_X6_heldOn h v1 v2 v4).bind fun p3 =>
        if p3 = 0 then
          f_X6_choose_L12 fu h v0 v1 v2 v3 (v4 + (1 : Int32))
        else
          (gd h v1 9).bind fun _ =>
          (f_X7_roomOn h v1 v4).bind fun p7 =>
          (gd h v0 8).bind fun _ =>
          (f_X6_chooseFrom h v0 v1 p3 p7).bind fun p10 =>
          f_X6_choose_L12 fu p10.2 v0 v1 v2 (v3 ||| p10.1) (v4 + (1 : Int32))
theorem b_X6_choose_L12 {X : PX} (E : z_E X cX6_choose RX6 "choose" 6 rmX6_choose (some .int)) (T0 : z_T0 X) {k n : Nat} (hk : k + 0 ≤ rmX6_choose.cells) (hn : n + 0 ≤ rmX6_choose.slots) {s : (Int32 × PH)} : ∀ (fu : Nat) (h : PH) (v0 : Nat) (v1 : Nat) (v2 : Int32) (v3 : Int32) (v4 : Int32) (e : f_X6_choose_L12 fu h v0 v1 v2 v3 v4 = some s) (kk : WP X 6 k n 59 [(3, .int s.1)] [] s.2), WP X 6 k n 12 [(0, .ref v0), (1, .ref v1), (2, .int v2), (3, .int v3), (4, .int v4)] [] h := by
  intro fu
  induction fu with
  | zero => intro h v0 v1 v2 v3 v4 e; exact absurd (show (none : Option (Int32 × PH)) = some s from e) (by intro z; cases z)
  | succ fu ih =>
    intro h v0 v1 v2 v3 v4 e kk
    unfold f_X6_choose_L12 at e
    refine z_iload E 4 dX6_choose_12 rfl ?_
    refine z_bipush E dX6_choose_14 bp_12 ?_
    rcases oi e with ⟨c1, e⟩ | ⟨c1, e⟩
    · refine z_icmp_geT (tgt := 59) E dX6_choose_16 rfl c1 ?_
      obtain rfl := Option.some.inj e
      exact z_sub [3] rfl kk
    · refine z_icmp_geF (tgt := 59) E dX6_choose_16 rfl c1 ?_
      refine z_iload_n E 2 dX6_choose_19 rfl ?_
      rcases oi e with ⟨c2, e⟩ | ⟨c2, e⟩
      · refine z_if_eqT (tgt := 59) E dX6_choose_20 rfl c2 ?_
        obtain rfl := Option.some.inj e
        exact z_sub [3] rfl kk
      · refine z_if_eqF (tgt := 59) E dX6_choose_20 rfl c2 ?_
        refine z_aload_n E 1 dX6_choose_23 rfl ?_
        refine z_iload_n E 2 dX6_choose_24 rfl ?_
        refine z_iload E 4 dX6_choose_25 rfl ?_
        obtain ⟨p3, e4, e⟩ := ob e
        refine z_kR2 (st := []) (av := [.ref v1, .int v2, .int v4]) E k n (z_rS (st := []) (av := [.ref v1, .int v2, .int v4]) E Y_X6_heldOn k_X6_24 (c_X6_heldOn (z_El E) e4) dX6_choose_27 rfl rfl (by decide) (by decide) (zk (k := k) (a := 0) hk (by decide)) (zk (k := n) (a := 0) hn (by decide)) (Nat.zero_le _)) rfl rfl rfl ?_
        refine z_istore (lv2 := [(5, .int p3), (0, .ref v0), (1, .ref v1), (2, .int v2), (3, .int v3), (4, .int v4)]) E dX6_choose_30 (by decide) rfl ?_
        refine z_iload E 0 dX6_choose_32 rfl ?_
        rcases oi e with ⟨c5, e⟩ | ⟨c5, e⟩
        · refine z_if_eqT (tgt := 53) E dX6_choose_34 rfl c5 ?_
          refine z_iinc (v := (v4 + (1 : Int32))) (lv2 := [(4, .int (v4 + (1 : Int32))), (5, .int p3), (0, .ref v0), (1, .ref v1), (2, .int v2), (3, .int v3)]) E 5 dX6_choose_53 rfl (congrArg (v4 + ·) ic_1) (by decide) rfl ?_
          refine z_goto (tgt := 12) E dX6_choose_56 rfl ?_
          exact z_sub [2, 3, 4, 5, 0] rfl (ih _ _ _ _ _ _ e kk)
        · refine z_if_eqF (tgt := 53) E dX6_choose_34 rfl c5 ?_
          refine z_iload_n E 4 dX6_choose_37 rfl ?_
          refine z_aload_n E 1 dX6_choose_38 rfl ?_
          refine z_aload_n E 2 dX6_choose_39 rfl ?_
          refine z_iload E 0 dX6_choose_40 rfl ?_
          refine z_aload_n E 2 dX6_choose_42 rfl ?_
          refine z_iload E 5 dX6_choose_43 rfl ?_
          obtain ⟨_, e6, e⟩ := ob e
          obtain ⟨p7, e8, e⟩ := ob e
          refine z_kR2 (st := [.int p3, .ref v1, .ref v0, .int v3]) (av := [.ref v1, .int v4]) E k n (z_rV (st := [.int p3, .ref v1, .ref v0, .int v3]) (av := [.int v4]) E Y_X7_roomOn k_X6_28 (ci := 9) rfl (c_X7_roomOn (z_El E) e8) dX6_choose_45 e6 rfl rfl (by decide) (by decide) (zk (k := k) (a := 0) hk (by decide)) (zk (k := n) (a := 0) hn (by decide)) (Nat.le_of_ble_eq_true rfl)) rfl rfl rfl ?_
          obtain ⟨_, e9, e⟩ := ob e
          obtain ⟨p10, e11, e⟩ := ob e
          refine z_kR2 (st := [.int v3]) (av := [.ref v0, .ref v1, .int p3, .int p7]) E k n (z_rV (st := [.int v3]) (av := [.ref v1, .int p3, .int p7]) E Y_X6_chooseFrom k_X6_32 (ci := 8) rfl (c_X6_chooseFrom (z_El E) e11) dX6_choose_48 e9 rfl rfl (by decide) (by decide) (zk (k := k) (a := 0) hk (by decide)) (zk (k := n) (a := 0) hn (by decide)) (Nat.le_of_ble_eq_true rfl)) rfl rfl rfl ?_
          refine z_ior E dX6_choose_51 ?_
          refine z_istore_n (lv2 := [(3, .int (v3 ||| p10.1)), (5, .int p3), (0, .ref v0), (1, .ref v1), (2, .int v2), (4, .int v4)]) E dX6_choose_52 (by decide) rfl ?_
          refine z_iinc (v := (v4 + (1 : Int32))) (lv2 := [(4, .int (v4 + (1 : Int32))), (3, .int (v3 ||| p10.1)), (5, .int p3), (0, .ref v0), (1, .ref v1), (2, .int v2)]) E 5 dX6_choose_53 rfl (congrArg (v4 + ·) ic_1) (by decide) rfl ?_
          refine z_goto (tgt := 12) E dX6_choose_56 rfl ?_
          exact z_sub [3, 4, 5, 1, 0] rfl (ih _ _ _ _ _ _ e kk)
noncomputable def f_X6_choose (h : PH) (a0 : Nat) (a1 : Nat) : Option (Int32 × PH) :=
  (gd h a1 9).bind fun _ =>
  (f_X7_setOf h a1 (104 : Int32)).bind fun p2 =>
  (f_X6_choose_L12 FV h a0 a1 p2 (0 : Int32) (0 : Int32)).bind fun s4 =>
  some (s4.1, s4.2)
theorem b_X6_choose {X : PX} (E : z_E X cX6_choose RX6 "choose" 6 rmX6_choose (some .int)) (T0 : z_T0 X) {h : PH} {a0 : Nat} {a1 : Nat} {r : (Int32 × PH)} (e : f_X6_choose h a0 a1 = some r) (M : z_M X rmX6_choose.cells rmX6_choose.slots (.inr (some (.int r.1))) r.2) : WP X 6 0 0 0 [(0, .ref a0), (1, .ref a1)] [] h := by
  unfold f_X6_choose at e
  refine z_aload_n E 1 dX6_choose_0 rfl ?_
  refine z_bipush E dX6_choose_1 bp_104 ?_
  obtain ⟨_, e1, e⟩ := ob e
  obtain ⟨p2, e3, e⟩ := ob e
  refine z_kR2 (st := []) (av := [.ref a1, .int (104 : Int32)]) E 0 0 (z_rV (st := []) (av := [.int (104 : Int32)]) E Y_X7_setOf k_X6_18 (ci := 9) rfl (c_X7_setOf (z_El E) e3) dX6_choose_3 e1 rfl rfl (by decide) (by decide) (by decide) (by decide) (Nat.zero_le _)) rfl rfl rfl ?_
  refine z_istore_n (lv2 := [(2, .int p2), (0, .ref a0), (1, .ref a1)]) E dX6_choose_6 (by decide) rfl ?_
  refine z_iconst E dX6_choose_7 ic_0 ?_
  refine z_istore_n (lv2 := [(3, .int (0 : Int32)), (2, .int p2), (0, .ref a0), (1, .ref a1)]) E dX6_choose_8 (by decide) rfl ?_
  refine z_iconst E dX6_choose_9 ic_0 ?_
  refine z_istore (lv2 := [(4, .int (0 : Int32)), (3, .int (0 : Int32)), (2, .int p2), (0, .ref a0), (1, .ref a1)]) E dX6_choose_10 (by decide) rfl ?_
  obtain ⟨s4, e5, e⟩ := ob e
  refine z_sub [3, 4, 2, 1, 0] rfl (b_X6_choose_L12 E T0 (by decide) (by decide) FV _ _ _ _ _ _ e5 ?_)
  refine z_iload_n E 0 dX6_choose_59 rfl ?_
  obtain rfl := Option.some.inj e
  exact z_iret E M dX6_choose_60 rfl rfl rfl rfl (by decide) (by decide)
theorem c_X6_choose {l : Launch} (hl : l.stackTraces = false) {h : PH} {a0 : Nat} {a1 : Nat} {r : (Int32 × PH)} (e : f_X6_choose h a0 a1 = some r) : CMet l yX6_choose (z_W yX6_choose cX6_choose 6 (some .int)) rmX6_choose h [.ref a0, .ref a1] (.inr (some (.int r.1))) r.2 :=
  z_met hl Y_X6_choose (by decide +kernel) (Nat.le_of_ble_eq_true rfl) (fun X hX E T0 M => b_X6_choose E T0 e M)
abbrev rmX7_weightOfAll : Room := { frames := 1, cells := 0, slots := 0, locals := 21 }
noncomputable def f_X7_weightOfAll_L4 : Nat → PH → Nat → Int32 → Int32 → Int32 → Option Int32
  | 0, _, _, _, _, _ => none
  | fu + 1, h, v0, v1, v2, v3 =>
    (rdI h v0 9 0).bind fun x1 =>
    if x1 ≤ v3 then
      some v2
    else
      if (f_X9_has v1 v3) = false then
        f_X7_weightOfAll_L4 fu h v0 v1 v2 (v3 + (1 : Int32))
      else
        (rdR h v0 9 2).bind fun x5 =>
        (alI .int h x5 v3).bind fun x7 =>
        f_X7_weightOfAll_L4 fu h v0 v1 (v2 + x7) (v3 + (1 : Int32))
theorem b_X7_weightOfAll_L4 {X : PX} (E : z_E X cX7_weightOfAll RX7 "weightOfAll" 4 rmX7_weightOfAll (some .int)) (T0 : z_T0 X) {k n : Nat} (hk : k + 0 ≤ rmX7_weightOfAll.cells) (hn : n + 0 ≤ rmX7_weightOfAll.slots) {s : Int32} : ∀ (fu : Nat) (h : PH) (v0 : Nat) (v1 : Int32) (v2 : Int32) (v3 : Int32) (e : f_X7_weightOfAll_L4 fu h v0 v1 v2 v3 = some s) (kk : WP X 4 k n 35 [(2, .int s)] [] h), WP X 4 k n 4 [(0, .ref v0), (1, .int v1), (2, .int v2), (3, .int v3)] [] h := by
  intro fu
  induction fu with
  | zero => intro h v0 v1 v2 v3 e; exact absurd (show (none : Option Int32) = some s from e) (by intro z; cases z)
  | succ fu ih =>
    intro h v0 v1 v2 v3 e kk
    unfold f_X7_weightOfAll_L4 at e
    refine z_iload_n E 3 dX7_weightOfAll_4 rfl ?_
    refine z_aload_n E 0 dX7_weightOfAll_5 rfl ?_
    obtain ⟨x1, e2, e⟩ := ob e
    refine z_getI E fl_X7_53 dX7_weightOfAll_6 e2 ?_
    rcases oi e with ⟨c3, e⟩ | ⟨c3, e⟩
    · refine z_icmp_geT (tgt := 35) E dX7_weightOfAll_9 rfl c3 ?_
      obtain rfl := Option.some.inj e
      exact z_sub [2] rfl kk
    · refine z_icmp_geF (tgt := 35) E dX7_weightOfAll_9 rfl c3 ?_
      refine z_iload_n E 1 dX7_weightOfAll_12 rfl ?_
      refine z_iload_n E 3 dX7_weightOfAll_13 rfl ?_
      refine z_kR2 (st := []) (av := [.int v1, .int v3]) E k n (z_rSN (st := []) (av := [.int v1, .int v3]) E Y_X9_has k_X7_104 (c_X9_has (l := z_l X) (h := h) (z_El E) v1 v3) dX7_weightOfAll_14 rfl rfl (by decide) (by decide) (zk (k := k) (a := 0) hk (by decide)) (zk (k := n) (a := 0) hn (by decide)) (Nat.zero_le _)) rfl rfl rfl ?_
      rcases oi e with ⟨c4, e⟩ | ⟨c4, e⟩
      · refine z_if_eqT (tgt := 29) E dX7_weightOfAll_17 rfl (zb_f c4) ?_
        refine z_iinc (v := (v3 + (1 : Int32))) (lv2 := [(3, .int (v3 + (1 : Int32))), (0, .ref v0), (1, .int v1), (2, .int v2)]) E 3 dX7_weightOfAll_29 rfl (congrArg (v3 + ·) ic_1) (by decide) rfl ?_
        refine z_goto (tgt := 4) E dX7_weightOfAll_32 rfl ?_
        exact z_sub [1, 2, 3, 0] rfl (ih _ _ _ _ _ e kk)
      · refine z_if_eqF (tgt := 29) E dX7_weightOfAll_17 rfl (zb_nf c4) ?_
        refine z_iload_n E 2 dX7_weightOfAll_20 rfl ?_
        refine z_aload_n E 0 dX7_weightOfAll_21 rfl ?_
        obtain ⟨x5, e6, e⟩ := ob e
        refine z_getR E fl_X7_15 dX7_weightOfAll_22 e6 ?_
        refine z_iload_n E 3 dX7_weightOfAll_25 rfl ?_
        obtain ⟨x7, e8, e⟩ := ob e
        refine z_iald E dX7_weightOfAll_26 e8 ?_
        refine z_iadd E dX7_weightOfAll_27 ?_
        refine z_istore_n (lv2 := [(2, .int (v2 + x7)), (0, .ref v0), (1, .int v1), (3, .int v3)]) E dX7_weightOfAll_28 (by decide) rfl ?_
        refine z_iinc (v := (v3 + (1 : Int32))) (lv2 := [(3, .int (v3 + (1 : Int32))), (2, .int (v2 + x7)), (0, .ref v0), (1, .int v1)]) E 3 dX7_weightOfAll_29 rfl (congrArg (v3 + ·) ic_1) (by decide) rfl ?_
        refine z_goto (tgt := 4) E dX7_weightOfAll_32 rfl ?_
        exact z_sub [2, 3, 1, 0] rfl (ih _ _ _ _ _ e kk)
noncomputable def f_X7_weightOfAll (h : PH) (a0 : Nat) (a1 : Int32) : Option Int32 :=
  (f_X7_weightOfAll_L4 FV h a0 a1 (0 : Int32) (0 : Int32)).bind fun s1 =>
  some s1
theorem b_X7_weightOfAll {X : PX} (E : z_E X cX7_weightOfAll RX7 "weightOfAll" 4 rmX7_weightOfAll (some .int)) (T0 : z_T0 X) {h : PH} {a0 : Nat} {a1 : Int32} {r : Int32} (e : f_X7_weightOfAll h a0 a1 = some r) (M : z_M X rmX7_weightOfAll.cells rmX7_weightOfAll.slots (.inr (some (.int r))) h) : WP X 4 0 0 0 [(0, .ref a0), (1, .int a1)] [] h := by
  unfold f_X7_weightOfAll at e
  refine z_iconst E dX7_weightOfAll_0 ic_0 ?_
  refine z_istore_n (lv2 := [(2, .int (0 : Int32)), (0, .ref a0), (1, .int a1)]) E dX7_weightOfAll_1 (by decide) rfl ?_
  refine z_iconst E dX7_weightOfAll_2 ic_0 ?_
  refine z_istore_n (lv2 := [(3, .int (0 : Int32)), (2, .int (0 : Int32)), (0, .ref a0), (1, .int a1)]) E dX7_weightOfAll_3 (by decide) rfl ?_
  obtain ⟨s1, e2, e⟩ := ob e
  refine z_sub [2, 3, 1, 0] rfl (b_X7_weightOfAll_L4 E T0 (by decide) (by decide) FV _ _ _ _ _ e2 ?_)
  refine z_iload_n E 0 dX7_weightOfAll_35 rfl ?_
  obtain rfl := Option.some.inj e
  exact z_iret E M dX7_weightOfAll_36 rfl rfl rfl rfl (by decide) (by decide)
theorem c_X7_weightOfAll {l : Launch} (hl : l.stackTraces = false) {h : PH} {a0 : Nat} {a1 : Int32} {r : Int32} (e : f_X7_weightOfAll h a0 a1 = some r) : CMet l yX7_weightOfAll (z_W yX7_weightOfAll cX7_weightOfAll 4 (some .int)) rmX7_weightOfAll h [.ref a0, .int a1] (.inr (some (.int r))) h :=
  z_met hl Y_X7_weightOfAll (by decide +kernel) (Nat.le_of_ble_eq_true rfl) (fun X hX E T0 M => b_X7_weightOfAll E T0 e M)
abbrev rmX1_giveBack : Room := { frames := 0, cells := 0, slots := 0, locals := 0 }
noncomputable def f_X1_giveBack (h : PH) (a0 : Nat) (a1 : Int32) : Option PH :=
  (rdR h a0 9 3).bind fun x1 =>
  (asI .char h x1 a1 (102 : Int32)).bind fun h3 =>
  (rdI h3 a0 9 16).bind fun x5 =>
  (wr h3 a0 9 16 (.int (x5 + (1 : Int32)))).bind fun h7 =>
  some h7
theorem b_X1_giveBack {X : PX} (E : z_E X cX1_giveBack RX1 "giveBack" 2 rmX1_giveBack none) (T0 : z_T0 X) {h : PH} {a0 : Nat} {a1 : Int32} {r : PH} (e : f_X1_giveBack h a0 a1 = some r) (M : z_M X rmX1_giveBack.cells rmX1_giveBack.slots (.inr none) r) : WP X 2 0 0 0 [(0, .ref a0), (1, .int a1)] [] h := by
  unfold f_X1_giveBack at e
  refine z_aload_n E 0 dX1_giveBack_0 rfl ?_
  obtain ⟨x1, e2, e⟩ := ob e
  refine z_getR E fl_X1_82 dX1_giveBack_1 e2 ?_
  refine z_iload_n E 1 dX1_giveBack_4 rfl ?_
  refine z_bipush E dX1_giveBack_5 bp_102 ?_
  obtain ⟨h3, e4, e⟩ := ob e
  refine z_cast E dX1_giveBack_7 e4 ?_
  refine z_aload_n E 0 dX1_giveBack_8 rfl ?_
  refine z_dup E dX1_giveBack_9 rfl ?_
  obtain ⟨x5, e6, e⟩ := ob e
  refine z_getI E fl_X1_122 dX1_giveBack_10 e6 ?_
  refine z_iconst E dX1_giveBack_13 ic_1 ?_
  refine z_iadd E dX1_giveBack_14 ?_
  obtain ⟨h7, e8, e⟩ := ob e
  refine z_putI E fp_X1_122 (Or.inl rfl) dX1_giveBack_15 e8 ?_
  obtain rfl := Option.some.inj e
  exact z_vret E M dX1_giveBack_18 rfl rfl rfl (by decide) (by decide)
theorem c_X1_giveBack {l : Launch} (hl : l.stackTraces = false) {h : PH} {a0 : Nat} {a1 : Int32} {r : PH} (e : f_X1_giveBack h a0 a1 = some r) : CMet l yX1_giveBack (z_W yX1_giveBack cX1_giveBack 2 none) rmX1_giveBack h [.ref a0, .int a1] (.inr none) r :=
  z_met hl Y_X1_giveBack (by decide +kernel) (Nat.le_of_ble_eq_true rfl) (fun X hX E T0 M => b_X1_giveBack E T0 e M)
abbrev rmX1_landHold : Room := { frames := 2, cells := 0, slots := 0, locals := 44 }
noncomputable def f_X1_landHold_L8 : Nat → PH → Nat → Int32 → Int32 → Int32 → Option PH
  | 0, _, _, _, _, _ => none
  | fu + 1, h, v0, v1, v2, v3 =>
    (rdI h v0 9 0).bind fun x1 =>
    if x1 ≤ v3 then
      some h
    else
      if (f_X9_has v1 v3) = false then
        (rdR h v0 9 3).bind fun x5 =>
        (alI .char h x5 v3).bind fun x7 =>
        if ¬ x7 = (104 : Int32) then
          f_X1_landHold_L8 fu h v0 v1 v2 (v3 + (1 : Int32))
        else
          (f_X1_giveBack h v0 v3).bind fun p10 =>
          f_X1_landHold_L8 fu p10 v0 v1 v2 (v3 + (1 : Int32))
      else
        (rdR h v0 9 3).bind fun x12 =>
        (asI .char h x12 v3 (108 : Int32)).bind fun h14 =>
        (rdR h14 v0 9 7).bind fun x16 =>
        (rdR h14 v0 9 1).bind fun x18 =>
        (alI .int h14 x18 v3).bind fun x20 =>
        (alI .int h14 x16 x20).bind fun x22 =>
        (rdR h14 v0 9 2).bind fun x24 =>
        (alI .int h14 x24 v3).bind fun x26 =>
        (asI .int h14 x16 x20 (x22 + x26)).bind fun h28 =>
        f_X1_landHold_L8 fu h28 v0 v1 v2 (v3 + (1 : Int32))
theorem b_X1_landHold_L8 {X : PX} (E : z_E X cX1_landHold RX1 "landHold" 4 rmX1_landHold (some .int)) (T0 : z_T0 X) {k n : Nat} (hk : k + 0 ≤ rmX1_landHold.cells) (hn : n + 0 ≤ rmX1_landHold.slots) {s : PH} : ∀ (fu : Nat) (h : PH) (v0 : Nat) (v1 : Int32) (v2 : Int32) (v3 : Int32) (e : f_X1_landHold_L8 fu h v0 v1 v2 v3 = some s) (kk : WP X 4 k n 77 [(0, .ref v0), (2, .int v2)] [] s), WP X 4 k n 8 [(0, .ref v0), (1, .int v1), (2, .int v2), (3, .int v3)] [] h := by
  intro fu
  induction fu with
  | zero => intro h v0 v1 v2 v3 e; exact absurd (show (none : Option PH) = some s from e) (by intro z; cases z)
  | succ fu ih =>
    intro h v0 v1 v2 v3 e kk
    unfold f_X1_landHold_L8 at e
    refine z_iload_n E 3 dX1_landHold_8 rfl ?_
    refine z_aload_n E 0 dX1_landHold_9 rfl ?_
    obtain ⟨x1, e2, e⟩ := ob e
    refine z_getI E fl_X1_72 dX1_landHold_10 e2 ?_
    rcases oi e with ⟨c3, e⟩ | ⟨c3, e⟩
    · refine z_icmp_geT (tgt := 77) E dX1_landHold_13 rfl c3 ?_
      obtain rfl := Option.some.inj e
      exact z_sub [0, 2] rfl kk
    · refine z_icmp_geF (tgt := 77) E dX1_landHold_13 rfl c3 ?_
      refine z_iload_n E 1 dX1_landHold_16 rfl ?_
      refine z_iload_n E 3 dX1_landHold_17 rfl ?_
      refine z_kR2 (st := []) (av := [.int v1, .int v3]) E k n (z_rSN (st := []) (av := [.int v1, .int v3]) E Y_X9_has k_X1_101 (c_X9_has (l := z_l X) (h := h) (z_El E) v1 v3) dX1_landHold_18 rfl rfl (by decide) (by decide) (zk (k := k) (a := 0) hk (by decide)) (zk (k := n) (a := 0) hn (by decide)) (Nat.zero_le _)) rfl rfl rfl ?_
      rcases oi e with ⟨c4, e⟩ | ⟨c4, e⟩
      · refine z_if_eqT (tgt := 55) E dX1_landHold_21 rfl (zb_f c4) ?_
        refine z_aload_n E 0 dX1_landHold_55 rfl ?_
        obtain ⟨x5, e6, e⟩ := ob e
        refine z_getR E fl_X1_82 dX1_landHold_56 e6 ?_
        refine z_iload_n E 3 dX1_landHold_59 rfl ?_
        obtain ⟨x7, e8, e⟩ := ob e
        refine z_cald E dX1_landHold_60 e8 ?_
        refine z_bipush E dX1_landHold_61 bp_104 ?_
        rcases oi e with ⟨c9, e⟩ | ⟨c9, e⟩
        · refine z_icmp_neT (tgt := 71) E dX1_landHold_63 rfl c9 ?_
          refine z_iinc (v := (v3 + (1 : Int32))) (lv2 := [(3, .int (v3 + (1 : Int32))), (0, .ref v0), (1, .int v1), (2, .int v2)]) E 3 dX1_landHold_71 rfl (congrArg (v3 + ·) ic_1) (by decide) rfl ?_
          refine z_goto (tgt := 8) E dX1_landHold_74 rfl ?_
          exact z_sub [1, 2, 3, 0] rfl (ih _ _ _ _ _ e kk)
        · refine z_icmp_neF (tgt := 71) E dX1_landHold_63 rfl (Classical.not_not.mp c9) ?_
          refine z_aload_n E 0 dX1_landHold_66 rfl ?_
          refine z_iload_n E 3 dX1_landHold_67 rfl ?_
          obtain ⟨p10, e11, e⟩ := ob e
          refine z_kV2 (st := []) (av := [.ref v0, .int v3]) E k n (z_rS (st := []) (av := [.ref v0, .int v3]) E Y_X1_giveBack k_X1_58 (c_X1_giveBack (z_El E) e11) dX1_landHold_68 rfl rfl (by decide) (by decide) (zk (k := k) (a := 0) hk (by decide)) (zk (k := n) (a := 0) hn (by decide)) (Nat.zero_le _)) rfl rfl rfl ?_
          refine z_iinc (v := (v3 + (1 : Int32))) (lv2 := [(3, .int (v3 + (1 : Int32))), (0, .ref v0), (1, .int v1), (2, .int v2)]) E 3 dX1_landHold_71 rfl (congrArg (v3 + ·) ic_1) (by decide) rfl ?_
          refine z_goto (tgt := 8) E dX1_landHold_74 rfl ?_
          exact z_sub [1, 2, 3, 0] rfl (ih _ _ _ _ _ e kk)
      · refine z_if_eqF (tgt := 55) E dX1_landHold_21 rfl (zb_nf c4) ?_
        refine z_aload_n E 0 dX1_landHold_24 rfl ?_
        obtain ⟨x12, e13, e⟩ := ob e
        refine z_getR E fl_X1_82 dX1_landHold_25 e13 ?_
        refine z_iload_n E 3 dX1_landHold_28 rfl ?_
        refine z_bipush E dX1_landHold_29 bp_108 ?_
        obtain ⟨h14, e15, e⟩ := ob e
        refine z_cast E dX1_landHold_31 e15 ?_
        refine z_aload_n E 0 dX1_landHold_32 rfl ?_
        obtain ⟨x16, e17, e⟩ := ob e
        refine z_getR E fl_X1_116 dX1_landHold_33 e17 ?_
        refine z_aload_n E 0 dX1_landHold_36 rfl ?_
        obtain ⟨x18, e19, e⟩ := ob e
        refine z_getR E fl_X1_76 dX1_landHold_37 e19 ?_
        refine z_iload_n E 3 dX1_landHold_40 rfl ?_
        obtain ⟨x20, e21, e⟩ := ob e
        refine z_iald E dX1_landHold_41 e21 ?_
        refine z_dup2 E dX1_landHold_42 rfl rfl ?_
        obtain ⟨x22, e23, e⟩ := ob e
        refine z_iald E dX1_landHold_43 e23 ?_
        refine z_aload_n E 0 dX1_landHold_44 rfl ?_
        obtain ⟨x24, e25, e⟩ := ob e
        refine z_getR E fl_X1_79 dX1_landHold_45 e25 ?_
        refine z_iload_n E 3 dX1_landHold_48 rfl ?_
        obtain ⟨x26, e27, e⟩ := ob e
        refine z_iald E dX1_landHold_49 e27 ?_
        refine z_iadd E dX1_landHold_50 ?_
        obtain ⟨h28, e29, e⟩ := ob e
        refine z_iast E dX1_landHold_51 e29 ?_
        refine z_goto (tgt := 71) E dX1_landHold_52 rfl ?_
        refine z_iinc (v := (v3 + (1 : Int32))) (lv2 := [(3, .int (v3 + (1 : Int32))), (0, .ref v0), (1, .int v1), (2, .int v2)]) E 3 dX1_landHold_71 rfl (congrArg (v3 + ·) ic_1) (by decide) rfl ?_
        refine z_goto (tgt := 8) E dX1_landHold_74 rfl ?_
        exact z_sub [1, 2, 3, 0] rfl (ih _ _ _ _ _ e kk)
noncomputable def f_X1_landHold (h : PH) (a0 : Nat) (a1 : Int32) : Option (Int32 × PH) :=
  (gd h a0 9).bind fun _ =>
  (f_X7_weightOfAll h a0 a1).bind fun p2 =>
  (f_X1_landHold_L8 FV h a0 a1 p2 (0 : Int32)).bind fun s4 =>
  (rdI s4 a0 9 14).bind fun x6 =>
  (wr s4 a0 9 14 (.int (x6 + ((2 : Int32) * p2)))).bind fun h8 =>
  some (p2, h8)
theorem b_X1_landHold {X : PX} (E : z_E X cX1_landHold RX1 "landHold" 4 rmX1_landHold (some .int)) (T0 : z_T0 X) {h : PH} {a0 : Nat} {a1 : Int32} {r : (Int32 × PH)} (e : f_X1_landHold h a0 a1 = some r) (M : z_M X rmX1_landHold.cells rmX1_landHold.slots (.inr (some (.int r.1))) r.2) : WP X 4 0 0 0 [(0, .ref a0), (1, .int a1)] [] h := by
  unfold f_X1_landHold at e
  refine z_aload_n E 0 dX1_landHold_0 rfl ?_
  refine z_iload_n E 1 dX1_landHold_1 rfl ?_
  obtain ⟨_, e1, e⟩ := ob e
  obtain ⟨p2, e3, e⟩ := ob e
  refine z_kR2 (st := []) (av := [.ref a0, .int a1]) E 0 0 (z_rV (st := []) (av := [.int a1]) E Y_X7_weightOfAll k_X1_113 (ci := 9) rfl (c_X7_weightOfAll (z_El E) e3) dX1_landHold_2 e1 rfl rfl (by decide) (by decide) (by decide) (by decide) (Nat.zero_le _)) rfl rfl rfl ?_
  refine z_istore_n (lv2 := [(2, .int p2), (0, .ref a0), (1, .int a1)]) E dX1_landHold_5 (by decide) rfl ?_
  refine z_iconst E dX1_landHold_6 ic_0 ?_
  refine z_istore_n (lv2 := [(3, .int (0 : Int32)), (2, .int p2), (0, .ref a0), (1, .int a1)]) E dX1_landHold_7 (by decide) rfl ?_
  obtain ⟨s4, e5, e⟩ := ob e
  refine z_sub [2, 3, 1, 0] rfl (b_X1_landHold_L8 E T0 (by decide) (by decide) FV _ _ _ _ _ e5 ?_)
  refine z_aload_n E 0 dX1_landHold_77 rfl ?_
  refine z_dup E dX1_landHold_78 rfl ?_
  obtain ⟨x6, e7, e⟩ := ob e
  refine z_getI E fl_X1_119 dX1_landHold_79 e7 ?_
  refine z_iconst E dX1_landHold_82 ic_2 ?_
  refine z_iload_n E 1 dX1_landHold_83 rfl ?_
  refine z_imul E dX1_landHold_84 ?_
  refine z_iadd E dX1_landHold_85 ?_
  obtain ⟨h8, e9, e⟩ := ob e
  refine z_putI E fp_X1_119 (Or.inl rfl) dX1_landHold_86 e9 ?_
  refine z_iload_n E 1 dX1_landHold_89 rfl ?_
  obtain rfl := Option.some.inj e
  exact z_iret E M dX1_landHold_90 rfl rfl rfl rfl (by decide) (by decide)
theorem c_X1_landHold {l : Launch} (hl : l.stackTraces = false) {h : PH} {a0 : Nat} {a1 : Int32} {r : (Int32 × PH)} (e : f_X1_landHold h a0 a1 = some r) : CMet l yX1_landHold (z_W yX1_landHold cX1_landHold 4 (some .int)) rmX1_landHold h [.ref a0, .int a1] (.inr (some (.int r.1))) r.2 :=
  z_met hl Y_X1_landHold (by decide +kernel) (Nat.le_of_ble_eq_true rfl) (fun X hX E T0 M => b_X1_landHold E T0 e M)
abbrev rmX1_payLicence : Room := { frames := 3, cells := 0, slots := 0, locals := 62 }
noncomputable def f_X1_payLicence (h : PH) (a0 : Nat) : Option (Int32 × PH) :=
  (rdI h a0 9 14).bind fun x1 =>
  (gd h a0 9).bind fun _ =>
  (f_X7_licencePrice h a0).bind fun p4 =>
  (wr h a0 9 14 (.int (x1 - p4))).bind fun h6 =>
  (wr h6 a0 9 12 (.int (1 : Int32))).bind fun h8 =>
  (rdI h8 a0 9 14).bind fun x10 =>
  some (x10, h8)
theorem b_X1_payLicence {X : PX} (E : z_E X cX1_payLicence RX1 "payLicence" 1 rmX1_payLicence (some .int)) (T0 : z_T0 X) {h : PH} {a0 : Nat} {r : (Int32 × PH)} (e : f_X1_payLicence h a0 = some r) (M : z_M X rmX1_payLicence.cells rmX1_payLicence.slots (.inr (some (.int r.1))) r.2) : WP X 1 0 0 0 [(0, .ref a0)] [] h := by
  unfold f_X1_payLicence at e
  refine z_aload_n E 0 dX1_payLicence_0 rfl ?_
  refine z_dup E dX1_payLicence_1 rfl ?_
  obtain ⟨x1, e2, e⟩ := ob e
  refine z_getI E fl_X1_119 dX1_payLicence_2 e2 ?_
  refine z_aload_n E 0 dX1_payLicence_5 rfl ?_
  obtain ⟨_, e3, e⟩ := ob e
  obtain ⟨p4, e5, e⟩ := ob e
  refine z_kR2 (st := [.int x1, .ref a0]) (av := [.ref a0]) E 0 0 (z_rV (st := [.int x1, .ref a0]) (av := []) E Y_X7_licencePrice k_X1_125 (ci := 9) rfl (c_X7_licencePrice (z_El E) e5) dX1_payLicence_6 e3 rfl rfl (by decide) (by decide) (by decide) (by decide) (Nat.le_of_ble_eq_true rfl)) rfl rfl rfl ?_
  refine z_isub E dX1_payLicence_9 ?_
  obtain ⟨h6, e7, e⟩ := ob e
  refine z_putI E fp_X1_119 (Or.inl rfl) dX1_payLicence_10 e7 ?_
  refine z_aload_n E 0 dX1_payLicence_13 rfl ?_
  refine z_iconst E dX1_payLicence_14 ic_1 ?_
  obtain ⟨h8, e9, e⟩ := ob e
  refine z_putV E fp_X1_129 (Or.inl rfl) dX1_payLicence_15 e9 (fun _ => ⟨rfl, rfl⟩) ?_
  refine z_aload_n E 0 dX1_payLicence_18 rfl ?_
  obtain ⟨x10, e11, e⟩ := ob e
  refine z_getI E fl_X1_119 dX1_payLicence_19 e11 ?_
  obtain rfl := Option.some.inj e
  exact z_iret E M dX1_payLicence_22 rfl rfl rfl rfl (by decide) (by decide)
theorem c_X1_payLicence {l : Launch} (hl : l.stackTraces = false) {h : PH} {a0 : Nat} {r : (Int32 × PH)} (e : f_X1_payLicence h a0 = some r) : CMet l yX1_payLicence (z_W yX1_payLicence cX1_payLicence 1 (some .int)) rmX1_payLicence h [.ref a0] (.inr (some (.int r.1))) r.2 :=
  z_met hl Y_X1_payLicence (by decide +kernel) (Nat.le_of_ble_eq_true rfl) (fun X hX E T0 M => b_X1_payLicence E T0 e M)
abbrev rmX1_drift : Room := { frames := 0, cells := 0, slots := 0, locals := 0 }
noncomputable def f_X1_drift_L4 : Nat → PH → Nat → Int32 → Int32 → Option (Int32 × PH)
  | 0, _, _, _, _ => none
  | fu + 1, h, v0, v1, v2 =>
    (rdI h v0 9 0).bind fun x1 =>
    if x1 ≤ v2 then
      some (v1, h)
    else
      (rdR h v0 9 5).bind fun x4 =>
      (rdR h v0 9 1).bind fun x6 =>
      (alI .int h x6 v2).bind fun x8 =>
      (alI .int h x4 x8).bind fun x10 =>
      (rdR h v0 9 3).bind fun x12 =>
      (alI .char h x12 v2).bind fun x14 =>
      if ¬ x14 = (102 : Int32) then
        f_X1_drift_L4 fu h v0 v1 (v2 + (1 : Int32))
      else
        if x10 = 0 then
          f_X1_drift_L4 fu h v0 v1 (v2 + (1 : Int32))
        else
          (rdR h v0 9 1).bind fun x18 =>
          (rdR h v0 9 1).bind fun x20 =>
          (alI .int h x20 v2).bind fun x22 =>
          (asI .int h x18 v2 (zrem ((x22 + x10) + (12 : Int32)) (12 : Int32))).bind fun h24 =>
          f_X1_drift_L4 fu h24 v0 (v1 + (1 : Int32)) (v2 + (1 : Int32))
theorem b_X1_drift_L4 {X : PX} (E : z_E X cX1_drift RX1 "drift" 4 rmX1_drift (some .int)) (T0 : z_T0 X) {k n : Nat} (hk : k + 0 ≤ rmX1_drift.cells) (hn : n + 0 ≤ rmX1_drift.slots) {s : (Int32 × PH)} : ∀ (fu : Nat) (h : PH) (v0 : Nat) (v1 : Int32) (v2 : Int32) (e : f_X1_drift_L4 fu h v0 v1 v2 = some s) (kk : WP X 4 k n 68 [(1, .int s.1)] [] s.2), WP X 4 k n 4 [(0, .ref v0), (1, .int v1), (2, .int v2)] [] h := by
  intro fu
  induction fu with
  | zero => intro h v0 v1 v2 e; exact absurd (show (none : Option (Int32 × PH)) = some s from e) (by intro z; cases z)
  | succ fu ih =>
    intro h v0 v1 v2 e kk
    unfold f_X1_drift_L4 at e
    refine z_iload_n E 2 dX1_drift_4 rfl ?_
    refine z_aload_n E 0 dX1_drift_5 rfl ?_
    obtain ⟨x1, e2, e⟩ := ob e
    refine z_getI E fl_X1_72 dX1_drift_6 e2 ?_
    rcases oi e with ⟨c3, e⟩ | ⟨c3, e⟩
    · refine z_icmp_geT (tgt := 68) E dX1_drift_9 rfl c3 ?_
      obtain rfl := Option.some.inj e
      exact z_sub [1] rfl kk
    · refine z_icmp_geF (tgt := 68) E dX1_drift_9 rfl c3 ?_
      refine z_aload_n E 0 dX1_drift_12 rfl ?_
      obtain ⟨x4, e5, e⟩ := ob e
      refine z_getR E fl_X1_28 dX1_drift_13 e5 ?_
      refine z_aload_n E 0 dX1_drift_16 rfl ?_
      obtain ⟨x6, e7, e⟩ := ob e
      refine z_getR E fl_X1_76 dX1_drift_17 e7 ?_
      refine z_iload_n E 2 dX1_drift_20 rfl ?_
      obtain ⟨x8, e9, e⟩ := ob e
      refine z_iald E dX1_drift_21 e9 ?_
      obtain ⟨x10, e11, e⟩ := ob e
      refine z_iald E dX1_drift_22 e11 ?_
      refine z_istore_n (lv2 := [(3, .int x10), (0, .ref v0), (1, .int v1), (2, .int v2)]) E dX1_drift_23 (by decide) rfl ?_
      refine z_aload_n E 1 dX1_drift_24 rfl ?_
      obtain ⟨x12, e13, e⟩ := ob e
      refine z_getR E fl_X1_82 dX1_drift_25 e13 ?_
      refine z_iload_n E 3 dX1_drift_28 rfl ?_
      obtain ⟨x14, e15, e⟩ := ob e
      refine z_cald E dX1_drift_29 e15 ?_
      refine z_bipush E dX1_drift_30 bp_102 ?_
      rcases oi e with ⟨c16, e⟩ | ⟨c16, e⟩
      · refine z_icmp_neT (tgt := 62) E dX1_drift_32 rfl c16 ?_
        refine z_iinc (v := (v2 + (1 : Int32))) (lv2 := [(2, .int (v2 + (1 : Int32))), (3, .int x10), (0, .ref v0), (1, .int v1)]) E 3 dX1_drift_62 rfl (congrArg (v2 + ·) ic_1) (by decide) rfl ?_
        refine z_goto (tgt := 4) E dX1_drift_65 rfl ?_
        exact z_sub [2, 3, 0] rfl (ih _ _ _ _ e kk)
      · refine z_icmp_neF (tgt := 62) E dX1_drift_32 rfl (Classical.not_not.mp c16) ?_
        refine z_iload_n E 0 dX1_drift_35 rfl ?_
        rcases oi e with ⟨c17, e⟩ | ⟨c17, e⟩
        · refine z_if_eqT (tgt := 62) E dX1_drift_36 rfl c17 ?_
          refine z_iinc (v := (v2 + (1 : Int32))) (lv2 := [(2, .int (v2 + (1 : Int32))), (3, .int x10), (0, .ref v0), (1, .int v1)]) E 3 dX1_drift_62 rfl (congrArg (v2 + ·) ic_1) (by decide) rfl ?_
          refine z_goto (tgt := 4) E dX1_drift_65 rfl ?_
          exact z_sub [2, 3, 0] rfl (ih _ _ _ _ e kk)
        · refine z_if_eqF (tgt := 62) E dX1_drift_36 rfl c17 ?_
          refine z_aload_n E 1 dX1_drift_39 rfl ?_
          obtain ⟨x18, e19, e⟩ := ob e
          refine z_getR E fl_X1_76 dX1_drift_40 e19 ?_
          refine z_iload_n E 3 dX1_drift_43 rfl ?_
          refine z_aload_n E 1 dX1_drift_44 rfl ?_
          obtain ⟨x20, e21, e⟩ := ob e
          refine z_getR E fl_X1_76 dX1_drift_45 e21 ?_
          refine z_iload_n E 3 dX1_drift_48 rfl ?_
          obtain ⟨x22, e23, e⟩ := ob e
          refine z_iald E dX1_drift_49 e23 ?_
          refine z_iload_n E 0 dX1_drift_50 rfl ?_
          refine z_iadd E dX1_drift_51 ?_
          refine z_bipush E dX1_drift_52 bp_12 ?_
          refine z_iadd E dX1_drift_54 ?_
          refine z_bipush E dX1_drift_55 bp_12 ?_
          refine z_irem E dX1_drift_57 (by decide) ?_
          obtain ⟨h24, e25, e⟩ := ob e
          refine z_iast E dX1_drift_58 e25 ?_
          refine z_iinc (v := (v1 + (1 : Int32))) (lv2 := [(1, .int (v1 + (1 : Int32))), (3, .int x10), (0, .ref v0), (2, .int v2)]) E 2 dX1_drift_59 rfl (congrArg (v1 + ·) ic_1) (by decide) rfl ?_
          refine z_iinc (v := (v2 + (1 : Int32))) (lv2 := [(2, .int (v2 + (1 : Int32))), (1, .int (v1 + (1 : Int32))), (3, .int x10), (0, .ref v0)]) E 3 dX1_drift_62 rfl (congrArg (v2 + ·) ic_1) (by decide) rfl ?_
          refine z_goto (tgt := 4) E dX1_drift_65 rfl ?_
          exact z_sub [3, 1, 0] rfl (ih _ _ _ _ e kk)
noncomputable def f_X1_drift (h : PH) (a0 : Nat) : Option (Int32 × PH) :=
  (f_X1_drift_L4 FV h a0 (0 : Int32) (0 : Int32)).bind fun s1 =>
  some (s1.1, s1.2)
theorem b_X1_drift {X : PX} (E : z_E X cX1_drift RX1 "drift" 4 rmX1_drift (some .int)) (T0 : z_T0 X) {h : PH} {a0 : Nat} {r : (Int32 × PH)} (e : f_X1_drift h a0 = some r) (M : z_M X rmX1_drift.cells rmX1_drift.slots (.inr (some (.int r.1))) r.2) : WP X 4 0 0 0 [(0, .ref a0)] [] h := by
  unfold f_X1_drift at e
  refine z_iconst E dX1_drift_0 ic_0 ?_
  refine z_istore_n (lv2 := [(1, .int (0 : Int32)), (0, .ref a0)]) E dX1_drift_1 (by decide) rfl ?_
  refine z_iconst E dX1_drift_2 ic_0 ?_
  refine z_istore_n (lv2 := [(2, .int (0 : Int32)), (1, .int (0 : Int32)), (0, .ref a0)]) E dX1_drift_3 (by decide) rfl ?_
  obtain ⟨s1, e2, e⟩ := ob e
  refine z_sub [2, 1, 0] rfl (b_X1_drift_L4 E T0 (by decide) (by decide) FV _ _ _ _ e2 ?_)
  refine z_iload_n E 0 dX1_drift_68 rfl ?_
  obtain rfl := Option.some.inj e
  exact z_iret E M dX1_drift_69 rfl rfl rfl rfl (by decide) (by decide)
theorem c_X1_drift {l : Launch} (hl : l.stackTraces = false) {h : PH} {a0 : Nat} {r : (Int32 × PH)} (e : f_X1_drift h a0 = some r) : CMet l yX1_drift (z_W yX1_drift cX1_drift 4 (some .int)) rmX1_drift h [.ref a0] (.inr (some (.int r.1))) r.2 :=
  z_met hl Y_X1_drift (by decide +kernel) (Nat.le_of_ble_eq_true rfl) (fun X hX E T0 M => b_X1_drift E T0 e M)
