abbrev rmX10_land : Room := { frames := 4, cells := 0, slots := 0, locals := 94 }
noncomputable def f_X10_land_L41 : Nat → PH → Nat → Int32 → Int32 → Int32 → Option PH
  | 0, _, _, _, _, _ => none
  | fu + 1, h, v0, v1, v2, v3 =>
    (rdR h v0 12 0).bind fun x1 =>
    (alI .int h x1 (0 : Int32)).bind fun x3 =>
    if x3 ≤ v3 then
      some h
    else
      if ¬ ((zshr v1 v3) &&& (1 : Int32)) = 0 then
        if ¬ ((zshr v2 v3) &&& (1 : Int32)) = (1 : Int32) then
          (gd h v0 12).bind fun _ =>
          (f_X10_lays h v0 v3 (2 : Int32) (0 : Int32)).bind fun p9 =>
          f_X10_land_L41 fu p9 v0 v1 v2 (v3 + (1 : Int32))
        else
          (gd h v0 12).bind fun _ =>
          (f_X10_lays h v0 v3 (2 : Int32) (2 : Int32)).bind fun p12 =>
          (rdR p12 v0 12 0).bind fun x14 =>
          (gd p12 v0 12).bind fun _ =>
          (f_X10_of p12 v0 v3 (0 : Int32)).bind fun p17 =>
          (alI .int p12 x14 ((32 : Int32) + p17)).bind fun x19 =>
          (gd p12 v0 12).bind fun _ =>
          (f_X10_of p12 v0 v3 (1 : Int32)).bind fun p22 =>
          (asI .int p12 x14 ((32 : Int32) + p17) (x19 + p22)).bind fun h24 =>
          f_X10_land_L41 fu h24 v0 v1 v2 (v3 + (1 : Int32))
      else
        f_X10_land_L41 fu h v0 v1 v2 (v3 + (1 : Int32))
theorem b_X10_land_L41 {X : PX} (E : z_E X cX10_land RX10 "land" 5 rmX10_land (some .int)) (T0 : z_T0 X) {k n : Nat} (hk : k + 0 ≤ rmX10_land.cells) (hn : n + 0 ≤ rmX10_land.slots) {s : PH} : ∀ (fu : Nat) (h : PH) (v0 : Nat) (v1 : Int32) (v2 : Int32) (v3 : Int32) (e : f_X10_land_L41 fu h v0 v1 v2 v3 = some s) (kk : WP X 5 k n 128 [(0, .ref v0), (1, .int v1), (2, .int v2)] [] s), WP X 5 k n 41 [(0, .ref v0), (1, .int v1), (2, .int v2), (3, .int v3)] [] h := by
  intro fu
  induction fu with
  | zero => intro h v0 v1 v2 v3 e; exact absurd (show (none : Option PH) = some s from e) (by intro z; cases z)
  | succ fu ih =>
    intro h v0 v1 v2 v3 e kk
    unfold f_X10_land_L41 at e
    refine z_iload_n E 3 dX10_land_41 rfl ?_
    refine z_aload_n E 0 dX10_land_42 rfl ?_
    obtain ⟨x1, e2, e⟩ := ob e
    refine z_getR E fl_X10_7 dX10_land_43 e2 ?_
    refine z_iconst E dX10_land_46 ic_0 ?_
    obtain ⟨x3, e4, e⟩ := ob e
    refine z_iald E dX10_land_47 e4 ?_
    rcases oi e with ⟨c5, e⟩ | ⟨c5, e⟩
    · refine z_icmp_geT (tgt := 128) E dX10_land_48 rfl c5 ?_
      obtain rfl := Option.some.inj e
      exact z_sub [0, 1, 2] rfl kk
    · refine z_icmp_geF (tgt := 128) E dX10_land_48 rfl c5 ?_
      refine z_iload_n E 1 dX10_land_51 rfl ?_
      refine z_iload_n E 3 dX10_land_52 rfl ?_
      refine z_ishr E dX10_land_53 ?_
      refine z_iconst E dX10_land_54 ic_1 ?_
      refine z_iand E dX10_land_55 ?_
      rcases oi e with ⟨c6, e⟩ | ⟨c6, e⟩
      · refine z_if_neT (tgt := 62) E dX10_land_56 rfl c6 ?_
        refine z_iload_n E 2 dX10_land_62 rfl ?_
        refine z_iload_n E 3 dX10_land_63 rfl ?_
        refine z_ishr E dX10_land_64 ?_
        refine z_iconst E dX10_land_65 ic_1 ?_
        refine z_iand E dX10_land_66 ?_
        refine z_iconst E dX10_land_67 ic_1 ?_
        rcases oi e with ⟨c7, e⟩ | ⟨c7, e⟩
        · refine z_icmp_neT (tgt := 75) E dX10_land_68 rfl c7 ?_
          refine z_iconst E dX10_land_75 ic_0 ?_
          refine z_istore (lv2 := [(4, .int (0 : Int32)), (0, .ref v0), (1, .int v1), (2, .int v2), (3, .int v3)]) E dX10_land_76 (by decide) rfl ?_
          refine z_aload_n E 1 dX10_land_78 rfl ?_
          refine z_iload_n E 4 dX10_land_79 rfl ?_
          refine z_iconst E dX10_land_80 ic_2 ?_
          refine z_iload E 0 dX10_land_81 rfl ?_
          refine z_if_eqT (tgt := 90) E dX10_land_83 rfl (by decide) ?_
          refine z_iconst E dX10_land_90 ic_0 ?_
          obtain ⟨_, e8, e⟩ := ob e
          obtain ⟨p9, e10, e⟩ := ob e
          refine z_kV2 (st := []) (av := [.ref v0, .int v3, .int (2 : Int32), .int (0 : Int32)]) E k n (z_rV (st := []) (av := [.int v3, .int (2 : Int32), .int (0 : Int32)]) E Y_X10_lays k_X10_88 (ci := 12) rfl (c_X10_lays (z_El E) e10) dX10_land_91 e8 rfl rfl (by decide) (by decide) (zk (k := k) (a := 0) hk (by decide)) (zk (k := n) (a := 0) hn (by decide)) (Nat.zero_le _)) rfl rfl rfl ?_
          refine z_iload E 0 dX10_land_94 rfl ?_
          refine z_if_eqT (tgt := 122) E dX10_land_96 rfl (by decide) ?_
          refine z_iinc (v := (v3 + (1 : Int32))) (lv2 := [(3, .int (v3 + (1 : Int32))), (4, .int (0 : Int32)), (0, .ref v0), (1, .int v1), (2, .int v2)]) E 4 dX10_land_122 rfl (congrArg (v3 + ·) ic_1) (by decide) rfl ?_
          refine z_goto (tgt := 41) E dX10_land_125 rfl ?_
          exact z_sub [2, 3, 4, 0] rfl (ih _ _ _ _ _ e kk)
        · refine z_icmp_neF (tgt := 75) E dX10_land_68 rfl (Classical.not_not.mp c7) ?_
          refine z_iconst E dX10_land_71 ic_1 ?_
          refine z_goto (tgt := 76) E dX10_land_72 rfl ?_
          refine z_istore (lv2 := [(4, .int (1 : Int32)), (0, .ref v0), (1, .int v1), (2, .int v2), (3, .int v3)]) E dX10_land_76 (by decide) rfl ?_
          refine z_aload_n E 1 dX10_land_78 rfl ?_
          refine z_iload_n E 4 dX10_land_79 rfl ?_
          refine z_iconst E dX10_land_80 ic_2 ?_
          refine z_iload E 0 dX10_land_81 rfl ?_
          refine z_if_eqF (tgt := 90) E dX10_land_83 rfl (by decide) ?_
          refine z_iconst E dX10_land_86 ic_2 ?_
          refine z_goto (tgt := 91) E dX10_land_87 rfl ?_
          obtain ⟨_, e11, e⟩ := ob e
          obtain ⟨p12, e13, e⟩ := ob e
          refine z_kV2 (st := []) (av := [.ref v0, .int v3, .int (2 : Int32), .int (2 : Int32)]) E k n (z_rV (st := []) (av := [.int v3, .int (2 : Int32), .int (2 : Int32)]) E Y_X10_lays k_X10_88 (ci := 12) rfl (c_X10_lays (z_El E) e13) dX10_land_91 e11 rfl rfl (by decide) (by decide) (zk (k := k) (a := 0) hk (by decide)) (zk (k := n) (a := 0) hn (by decide)) (Nat.zero_le _)) rfl rfl rfl ?_
          refine z_iload E 0 dX10_land_94 rfl ?_
          refine z_if_eqF (tgt := 122) E dX10_land_96 rfl (by decide) ?_
          refine z_aload_n E 1 dX10_land_99 rfl ?_
          obtain ⟨x14, e15, e⟩ := ob e
          refine z_getR E fl_X10_7 dX10_land_100 e15 ?_
          refine z_bipush E dX10_land_103 bp_32 ?_
          refine z_aload_n E 1 dX10_land_105 rfl ?_
          refine z_iload_n E 4 dX10_land_106 rfl ?_
          refine z_iconst E dX10_land_107 ic_0 ?_
          obtain ⟨_, e16, e⟩ := ob e
          obtain ⟨p17, e18, e⟩ := ob e
          refine z_kR2 (st := [.int (32 : Int32), .ref x14]) (av := [.ref v0, .int v3, .int (0 : Int32)]) E k n (z_rV (st := [.int (32 : Int32), .ref x14]) (av := [.int v3, .int (0 : Int32)]) E Y_X10_of k_X10_73 (ci := 12) rfl (c_X10_of (z_El E) e18) dX10_land_108 e16 rfl rfl (by decide) (by decide) (zk (k := k) (a := 0) hk (by decide)) (zk (k := n) (a := 0) hn (by decide)) (Nat.le_of_ble_eq_true rfl)) rfl rfl rfl ?_
          refine z_iadd E dX10_land_111 ?_
          refine z_dup2 E dX10_land_112 rfl rfl ?_
          obtain ⟨x19, e20, e⟩ := ob e
          refine z_iald E dX10_land_113 e20 ?_
          refine z_aload_n E 1 dX10_land_114 rfl ?_
          refine z_iload_n E 4 dX10_land_115 rfl ?_
          refine z_iconst E dX10_land_116 ic_1 ?_
          obtain ⟨_, e21, e⟩ := ob e
          obtain ⟨p22, e23, e⟩ := ob e
          refine z_kR2 (st := [.int x19, .int ((32 : Int32) + p17), .ref x14]) (av := [.ref v0, .int v3, .int (1 : Int32)]) E k n (z_rV (st := [.int x19, .int ((32 : Int32) + p17), .ref x14]) (av := [.int v3, .int (1 : Int32)]) E Y_X10_of k_X10_73 (ci := 12) rfl (c_X10_of (z_El E) e23) dX10_land_117 e21 rfl rfl (by decide) (by decide) (zk (k := k) (a := 0) hk (by decide)) (zk (k := n) (a := 0) hn (by decide)) (Nat.le_of_ble_eq_true rfl)) rfl rfl rfl ?_
          refine z_iadd E dX10_land_120 ?_
          obtain ⟨h24, e25, e⟩ := ob e
          refine z_iast E dX10_land_121 e25 ?_
          refine z_iinc (v := (v3 + (1 : Int32))) (lv2 := [(3, .int (v3 + (1 : Int32))), (4, .int (1 : Int32)), (0, .ref v0), (1, .int v1), (2, .int v2)]) E 4 dX10_land_122 rfl (congrArg (v3 + ·) ic_1) (by decide) rfl ?_
          refine z_goto (tgt := 41) E dX10_land_125 rfl ?_
          exact z_sub [2, 3, 4, 0] rfl (ih _ _ _ _ _ e kk)
      · refine z_if_neF (tgt := 62) E dX10_land_56 rfl (Classical.not_not.mp c6) ?_
        refine z_goto (tgt := 122) E dX10_land_59 rfl ?_
        refine z_iinc (v := (v3 + (1 : Int32))) (lv2 := [(3, .int (v3 + (1 : Int32))), (0, .ref v0), (1, .int v1), (2, .int v2)]) E 3 dX10_land_122 rfl (congrArg (v3 + ·) ic_1) (by decide) rfl ?_
        refine z_goto (tgt := 41) E dX10_land_125 rfl ?_
        exact z_sub [1, 2, 3, 0] rfl (ih _ _ _ _ _ e kk)
noncomputable def f_X10_land (h : PH) (a0 : Nat) : Option (Int32 × PH) :=
  (gd h a0 12).bind fun _ =>
  (f_X10_those h a0 (1 : Int32)).bind fun p2 =>
  if ¬ p2 = 0 then
    (gd h a0 12).bind fun _ =>
    (f_X10_landing h a0).bind fun p6 =>
    (rdR h a0 12 0).bind fun x8 =>
    (gd h a0 12).bind fun _ =>
    (f_X10_keeps h a0 x8).bind fun p11 =>
    (f_X10_land_L41 FV p11 a0 p2 p6 (0 : Int32)).bind fun s13 =>
    (rdR s13 a0 12 0).bind fun x15 =>
    (alI .int s13 x15 (6 : Int32)).bind fun x17 =>
    (f_X10_bits p6).bind fun p19 =>
    (asI .int s13 x15 (6 : Int32) (x17 + p19)).bind fun h21 =>
    (rdR h21 a0 12 0).bind fun x23 =>
    (alI .int h21 x23 (7 : Int32)).bind fun x25 =>
    (f_X10_bits p2).bind fun p27 =>
    (f_X10_bits p6).bind fun p29 =>
    (asI .int h21 x23 (7 : Int32) (x25 + (p27 - p29))).bind fun h31 =>
    (rdR h31 a0 12 0).bind fun x33 =>
    (alI .int h31 x33 (4 : Int32)).bind fun x35 =>
    (gd h31 a0 12).bind fun _ =>
    (f_X10_heavy h31 a0 p6).bind fun p38 =>
    (asI .int h31 x33 (4 : Int32) (x35 + ((2 : Int32) * p38))).bind fun h40 =>
    (gd h40 a0 12).bind fun _ =>
    (f_X10_heavy h40 a0 p6).bind fun p43 =>
    some (p43, h40)
  else
    (gd h a0 12).bind fun _ =>
    (f_X10_those h a0 (0 : Int32)).bind fun p46 =>
    (f_X10_bits p46).bind fun p48 =>
    (gd h a0 12).bind fun _ =>
    (f_X10_denies h a0 (1 : Int32) (7 : Int32) p48).bind fun p51 =>
    some (p51.1, p51.2)
theorem b_X10_land {X : PX} (E : z_E X cX10_land RX10 "land" 5 rmX10_land (some .int)) (T0 : z_T0 X) {h : PH} {a0 : Nat} {r : (Int32 × PH)} (e : f_X10_land h a0 = some r) (M : z_M X rmX10_land.cells rmX10_land.slots (.inr (some (.int r.1))) r.2) : WP X 5 0 0 0 [(0, .ref a0)] [] h := by
  unfold f_X10_land at e
  refine z_aload_n E 0 dX10_land_0 rfl ?_
  refine z_iconst E dX10_land_1 ic_1 ?_
  obtain ⟨_, e1, e⟩ := ob e
  obtain ⟨p2, e3, e⟩ := ob e
  refine z_kR2 (st := []) (av := [.ref a0, .int (1 : Int32)]) E 0 0 (z_rV (st := []) (av := [.int (1 : Int32)]) E Y_X10_those k_X10_142 (ci := 12) rfl (c_X10_those (z_El E) e3) dX10_land_2 e1 rfl rfl (by decide) (by decide) (by decide) (by decide) (Nat.zero_le _)) rfl rfl rfl ?_
  refine z_istore_n (lv2 := [(1, .int p2), (0, .ref a0)]) E dX10_land_5 (by decide) rfl ?_
  refine z_iload_n E 0 dX10_land_6 rfl ?_
  rcases oi e with ⟨c4, e⟩ | ⟨c4, e⟩
  · refine z_if_neT (tgt := 26) E dX10_land_7 rfl c4 ?_
    refine z_aload_n E 1 dX10_land_26 rfl ?_
    obtain ⟨_, e5, e⟩ := ob e
    obtain ⟨p6, e7, e⟩ := ob e
    refine z_kR2 (st := []) (av := [.ref a0]) E 0 0 (z_rV (st := []) (av := []) E Y_X10_landing k_X10_166 (ci := 12) rfl (c_X10_landing (z_El E) e7) dX10_land_27 e5 rfl rfl (by decide) (by decide) (by decide) (by decide) (Nat.zero_le _)) rfl rfl rfl ?_
    refine z_istore_n (lv2 := [(2, .int p6), (1, .int p2), (0, .ref a0)]) E dX10_land_30 (by decide) rfl ?_
    refine z_aload_n E 2 dX10_land_31 rfl ?_
    refine z_aload_n E 2 dX10_land_32 rfl ?_
    obtain ⟨x8, e9, e⟩ := ob e
    refine z_getR E fl_X10_7 dX10_land_33 e9 ?_
    obtain ⟨_, e10, e⟩ := ob e
    obtain ⟨p11, e12, e⟩ := ob e
    refine z_kV2 (st := []) (av := [.ref a0, .ref x8]) E 0 0 (z_rV (st := []) (av := [.ref x8]) E Y_X10_keeps k_X10_84 (ci := 12) rfl (c_X10_keeps (z_El E) e12) dX10_land_36 e10 rfl rfl (by decide) (by decide) (by decide) (by decide) (Nat.zero_le _)) rfl rfl rfl ?_
    refine z_iconst E dX10_land_39 ic_0 ?_
    refine z_istore_n (lv2 := [(3, .int (0 : Int32)), (2, .int p6), (1, .int p2), (0, .ref a0)]) E dX10_land_40 (by decide) rfl ?_
    obtain ⟨s13, e14, e⟩ := ob e
    refine z_sub [3, 2, 1, 0] rfl (b_X10_land_L41 E T0 (by decide) (by decide) FV _ _ _ _ _ e14 ?_)
    refine z_aload_n E 0 dX10_land_128 rfl ?_
    obtain ⟨x15, e16, e⟩ := ob e
    refine z_getR E fl_X10_7 dX10_land_129 e16 ?_
    refine z_bipush E dX10_land_132 bp_6 ?_
    refine z_dup2 E dX10_land_134 rfl rfl ?_
    obtain ⟨x17, e18, e⟩ := ob e
    refine z_iald E dX10_land_135 e18 ?_
    refine z_iload_n E 2 dX10_land_136 rfl ?_
    obtain ⟨p19, e20, e⟩ := ob e
    refine z_kR2 (st := [.int x17, .int (6 : Int32), .ref x15]) (av := [.int p6]) E 0 0 (z_rS (st := [.int x17, .int (6 : Int32), .ref x15]) (av := [.int p6]) E Y_X10_bits k_X10_99 (c_X10_bits (z_El E) e20) dX10_land_137 rfl rfl (by decide) (by decide) (by decide) (by decide) (Nat.le_of_ble_eq_true rfl)) rfl rfl rfl ?_
    refine z_iadd E dX10_land_140 ?_
    obtain ⟨h21, e22, e⟩ := ob e
    refine z_iast E dX10_land_141 e22 ?_
    refine z_aload_n E 0 dX10_land_142 rfl ?_
    obtain ⟨x23, e24, e⟩ := ob e
    refine z_getR E fl_X10_7 dX10_land_143 e24 ?_
    refine z_bipush E dX10_land_146 bp_7 ?_
    refine z_dup2 E dX10_land_148 rfl rfl ?_
    obtain ⟨x25, e26, e⟩ := ob e
    refine z_iald E dX10_land_149 e26 ?_
    refine z_iload_n E 1 dX10_land_150 rfl ?_
    obtain ⟨p27, e28, e⟩ := ob e
    refine z_kR2 (st := [.int x25, .int (7 : Int32), .ref x23]) (av := [.int p2]) E 0 0 (z_rS (st := [.int x25, .int (7 : Int32), .ref x23]) (av := [.int p2]) E Y_X10_bits k_X10_99 (c_X10_bits (z_El E) e28) dX10_land_151 rfl rfl (by decide) (by decide) (by decide) (by decide) (Nat.le_of_ble_eq_true rfl)) rfl rfl rfl ?_
    refine z_iload_n E 2 dX10_land_154 rfl ?_
    obtain ⟨p29, e30, e⟩ := ob e
    refine z_kR2 (st := [.int p27, .int x25, .int (7 : Int32), .ref x23]) (av := [.int p6]) E 0 0 (z_rS (st := [.int p27, .int x25, .int (7 : Int32), .ref x23]) (av := [.int p6]) E Y_X10_bits k_X10_99 (c_X10_bits (z_El E) e30) dX10_land_155 rfl rfl (by decide) (by decide) (by decide) (by decide) (Nat.le_of_ble_eq_true rfl)) rfl rfl rfl ?_
    refine z_isub E dX10_land_158 ?_
    refine z_iadd E dX10_land_159 ?_
    obtain ⟨h31, e32, e⟩ := ob e
    refine z_iast E dX10_land_160 e32 ?_
    refine z_aload_n E 0 dX10_land_161 rfl ?_
    obtain ⟨x33, e34, e⟩ := ob e
    refine z_getR E fl_X10_7 dX10_land_162 e34 ?_
    refine z_iconst E dX10_land_165 ic_4 ?_
    refine z_dup2 E dX10_land_166 rfl rfl ?_
    obtain ⟨x35, e36, e⟩ := ob e
    refine z_iald E dX10_land_167 e36 ?_
    refine z_iconst E dX10_land_168 ic_2 ?_
    refine z_aload_n E 0 dX10_land_169 rfl ?_
    refine z_iload_n E 2 dX10_land_170 rfl ?_
    obtain ⟨_, e37, e⟩ := ob e
    obtain ⟨p38, e39, e⟩ := ob e
    refine z_kR2 (st := [.int (2 : Int32), .int x35, .int (4 : Int32), .ref x33]) (av := [.ref a0, .int p6]) E 0 0 (z_rV (st := [.int (2 : Int32), .int x35, .int (4 : Int32), .ref x33]) (av := [.int p6]) E Y_X10_heavy k_X10_160 (ci := 12) rfl (c_X10_heavy (z_El E) e39) dX10_land_171 e37 rfl rfl (by decide) (by decide) (by decide) (by decide) (Nat.le_of_ble_eq_true rfl)) rfl rfl rfl ?_
    refine z_imul E dX10_land_174 ?_
    refine z_iadd E dX10_land_175 ?_
    obtain ⟨h40, e41, e⟩ := ob e
    refine z_iast E dX10_land_176 e41 ?_
    refine z_aload_n E 0 dX10_land_177 rfl ?_
    refine z_iload_n E 2 dX10_land_178 rfl ?_
    obtain ⟨_, e42, e⟩ := ob e
    obtain ⟨p43, e44, e⟩ := ob e
    refine z_kR2 (st := []) (av := [.ref a0, .int p6]) E 0 0 (z_rV (st := []) (av := [.int p6]) E Y_X10_heavy k_X10_160 (ci := 12) rfl (c_X10_heavy (z_El E) e44) dX10_land_179 e42 rfl rfl (by decide) (by decide) (by decide) (by decide) (Nat.zero_le _)) rfl rfl rfl ?_
    obtain rfl := Option.some.inj e
    exact z_iret E M dX10_land_182 rfl rfl rfl rfl (by decide) (by decide)
  · refine z_if_neF (tgt := 26) E dX10_land_7 rfl (Classical.not_not.mp c4) ?_
    refine z_aload_n E 1 dX10_land_10 rfl ?_
    refine z_iconst E dX10_land_11 ic_1 ?_
    refine z_bipush E dX10_land_12 bp_7 ?_
    refine z_aload_n E 1 dX10_land_14 rfl ?_
    refine z_iconst E dX10_land_15 ic_0 ?_
    obtain ⟨_, e45, e⟩ := ob e
    obtain ⟨p46, e47, e⟩ := ob e
    refine z_kR2 (st := [.int (7 : Int32), .int (1 : Int32), .ref a0]) (av := [.ref a0, .int (0 : Int32)]) E 0 0 (z_rV (st := [.int (7 : Int32), .int (1 : Int32), .ref a0]) (av := [.int (0 : Int32)]) E Y_X10_those k_X10_142 (ci := 12) rfl (c_X10_those (z_El E) e47) dX10_land_16 e45 rfl rfl (by decide) (by decide) (by decide) (by decide) (Nat.le_of_ble_eq_true rfl)) rfl rfl rfl ?_
    obtain ⟨p48, e49, e⟩ := ob e
    refine z_kR2 (st := [.int (7 : Int32), .int (1 : Int32), .ref a0]) (av := [.int p46]) E 0 0 (z_rS (st := [.int (7 : Int32), .int (1 : Int32), .ref a0]) (av := [.int p46]) E Y_X10_bits k_X10_99 (c_X10_bits (z_El E) e49) dX10_land_19 rfl rfl (by decide) (by decide) (by decide) (by decide) (Nat.le_of_ble_eq_true rfl)) rfl rfl rfl ?_
    obtain ⟨_, e50, e⟩ := ob e
    obtain ⟨p51, e52, e⟩ := ob e
    refine z_kR2 (st := []) (av := [.ref a0, .int (1 : Int32), .int (7 : Int32), .int p48]) E 0 0 (z_rV (st := []) (av := [.int (1 : Int32), .int (7 : Int32), .int p48]) E Y_X10_denies k_X10_80 (ci := 12) rfl (c_X10_denies (z_El E) e52) dX10_land_22 e50 rfl rfl (by decide) (by decide) (by decide) (by decide) (Nat.zero_le _)) rfl rfl rfl ?_
    obtain rfl := Option.some.inj e
    exact z_iret E M dX10_land_25 rfl rfl rfl rfl (by decide) (by decide)
theorem c_X10_land {l : Launch} (hl : l.stackTraces = false) {h : PH} {a0 : Nat} {r : (Int32 × PH)} (e : f_X10_land h a0 = some r) : CMet l yX10_land (z_W yX10_land cX10_land 5 (some .int)) rmX10_land h [.ref a0] (.inr (some (.int r.1))) r.2 :=
  z_met hl Y_X10_land (by decide +kernel) (Nat.le_of_ble_eq_true rfl) (fun X hX E T0 M => b_X10_land E T0 e M)
abbrev rmX9_free : Room := { frames := 8, cells := 12, slots := 117, locals := 146 }
noncomputable def f_X9_free (h : PH) (a0 : Nat) (a1 : Int32) : Option ((String ⊕ Int32) × PH) :=
  (gd h a0 11).bind fun _ =>
  (f_X9_change h a0 (9 : Int32) a1 (0 : Int32) (0 : Int32)).bind fun p2 =>
  Sum.elim
    (fun E4 =>
    some ((Sum.inl E4), p2.2))
    (fun y6 =>
    some ((Sum.inr y6), p2.2)) p2.1
theorem b_X9_free {X : PX} (E : z_E X cX9_free RX9 "free" 2 rmX9_free (some .int)) (T0 : z_T0 X) {h : PH} {a0 : Nat} {a1 : Int32} {r : ((String ⊕ Int32) × PH)} (e : f_X9_free h a0 a1 = some r) (M : z_M X rmX9_free.cells rmX9_free.slots (zoI r.1) r.2) : WP X 2 0 0 0 [(0, .ref a0), (1, .int a1)] [] h := by
  unfold f_X9_free at e
  refine z_aload_n E 0 dX9_free_0 rfl ?_
  refine z_bipush E dX9_free_1 bp_9 ?_
  refine z_iload_n E 1 dX9_free_3 rfl ?_
  refine z_iconst E dX9_free_4 ic_0 ?_
  refine z_iconst E dX9_free_5 ic_0 ?_
  obtain ⟨_, e1, e⟩ := ob e
  obtain ⟨p2, e3, e⟩ := ob e
  rcases os e with ⟨E4, c5, e⟩ | ⟨y6, c5, e⟩
  · obtain rfl := Option.some.inj e
    refine z_kX2 (st := []) (av := [.ref a0, .int (9 : Int32), .int a1, .int (0 : Int32), .int (0 : Int32)]) E 12 117 (z_rV (st := []) (av := [.int (9 : Int32), .int a1, .int (0 : Int32), .int (0 : Int32)]) E Y_X9_change k_X9_61 (ci := 11) rfl (zc_o (c_X9_change (z_El E) e3) (by rw [c5]; rfl)) dX9_free_6 e1 rfl rfl (by decide) (by decide) (by decide) (by decide) (Nat.zero_le _)) rfl rfl rfl ?_
    exact z_outX E T0 M rfl rfl (by decide) (by decide)
  · refine z_kR2 (st := []) (av := [.ref a0, .int (9 : Int32), .int a1, .int (0 : Int32), .int (0 : Int32)]) E 12 117 (z_rV (st := []) (av := [.int (9 : Int32), .int a1, .int (0 : Int32), .int (0 : Int32)]) E Y_X9_change k_X9_61 (ci := 11) rfl (zc_o (c_X9_change (z_El E) e3) (by rw [c5]; rfl)) dX9_free_6 e1 rfl rfl (by decide) (by decide) (by decide) (by decide) (Nat.zero_le _)) rfl rfl rfl ?_
    obtain rfl := Option.some.inj e
    exact z_iret E M dX9_free_9 rfl rfl rfl rfl (by decide) (by decide)
theorem c_X9_free {l : Launch} (hl : l.stackTraces = false) {h : PH} {a0 : Nat} {a1 : Int32} {r : ((String ⊕ Int32) × PH)} (e : f_X9_free h a0 a1 = some r) : CMet l yX9_free (z_W yX9_free cX9_free 2 (some .int)) rmX9_free h [.ref a0, .int a1] (zoI r.1) r.2 :=
  z_met hl Y_X9_free (by decide +kernel) (Nat.le_of_ble_eq_true rfl) (fun X hX E T0 M => b_X9_free E T0 e M)
abbrev rmL_free : Room := { frames := 9, cells := 12, slots := 117, locals := 167 }
noncomputable def f_L_free (h : PH) (a0 : Nat) (a1 : Int32) (a2 : Nat) : Option (Int32 × PH) :=
  (gd h a0 11).bind fun _ =>
  (f_X9_free h a0 a1).bind fun p2 =>
  Sum.elim
    (fun E4 =>
    if E4 = "java/util/NoSuchElementException" then
      some ((1 : Int32), p2.2)
    else if E4 = "java/lang/UnsupportedOperationException" then
      some ((2 : Int32), p2.2)
    else none)
    (fun y6 =>
    (asL p2.2 a2 (0 : Int32) y6.toInt64).bind fun h9 =>
    some ((0 : Int32), h9)) p2.1
theorem b_L_free {X : PX} (E : z_E X cL_free RL "free" 4 rmL_free (some .int)) (TT : z_TT X [(0, 9, 12, 20), (0, 9, 15, 15)]) {h : PH} {a0 : Nat} {a1 : Int32} {a2 : Nat} {r : (Int32 × PH)} (e : f_L_free h a0 a1 a2 = some r) (M : z_M X rmL_free.cells rmL_free.slots (.inr (some (.int r.1))) r.2) : WP X 4 0 0 0 [(0, .ref a0), (1, .int a1), (2, .ref a2)] [] h := by
  unfold f_L_free at e
  refine z_aload_n E 2 dL_free_0 rfl ?_
  refine z_iconst E dL_free_1 ic_0 ?_
  refine z_aload_n E 0 dL_free_2 rfl ?_
  refine z_iload_n E 1 dL_free_3 rfl ?_
  obtain ⟨_, e1, e⟩ := ob e
  obtain ⟨p2, e3, e⟩ := ob e
  rcases os e with ⟨E4, c5, e⟩ | ⟨y6, c5, e⟩
  · rcases oi e with ⟨c7, e⟩ | ⟨c7, e⟩
    · subst c7
      refine z_kX2 (st := [.int (0 : Int32), .ref a2]) (av := [.ref a0, .int a1]) E 12 117 (z_rV (st := [.int (0 : Int32), .ref a2]) (av := [.int a1]) E Y_X9_free k_L_95 (ci := 11) rfl (zc_o (c_X9_free (z_El E) e3) (by rw [c5]; rfl)) dL_free_4 e1 rfl rfl (by decide) (by decide) (by decide) (by decide) (Nat.le_of_ble_eq_true rfl)) rfl rfl rfl ?_
      refine z_catch (lv2 := [(0, .ref a0), (1, .int a1), (2, .ref a2)]) E TT 0 (q := (0, 9, 12, 20)) rfl rfl (by decide) cl_L_20 kb_NoSuchElementException (fun z hz => nomatch hz) (Or.inl ⟨_, dL_free_12, rfl, rfl⟩) (by decide) rfl ?_
      refine z_iconst E dL_free_13 ic_1 ?_
      obtain rfl := Option.some.inj e
      exact z_iret E M dL_free_14 rfl rfl rfl rfl (by decide) (by decide)
    rcases oi e with ⟨c8, e⟩ | ⟨c8, e⟩
    · subst c8
      refine z_kX2 (st := [.int (0 : Int32), .ref a2]) (av := [.ref a0, .int a1]) E 12 117 (z_rV (st := [.int (0 : Int32), .ref a2]) (av := [.int a1]) E Y_X9_free k_L_95 (ci := 11) rfl (zc_o (c_X9_free (z_El E) e3) (by rw [c5]; rfl)) dL_free_4 e1 rfl rfl (by decide) (by decide) (by decide) (by decide) (Nat.le_of_ble_eq_true rfl)) rfl rfl rfl ?_
      refine z_catch (lv2 := [(0, .ref a0), (1, .int a1), (2, .ref a2)]) E TT 1 (q := (0, 9, 15, 15)) rfl rfl (by decide) cl_L_15 kb_UnsupportedOperationException (List.forall_mem_cons.mpr ⟨⟨by decide, "java/util/NoSuchElementException", cl_L_20, nc_UnsupportedOperationException_NoSuchElementException⟩, (fun z hz => nomatch hz)⟩) (Or.inl ⟨_, dL_free_15, rfl, rfl⟩) (by decide) rfl ?_
      refine z_iconst E dL_free_16 ic_2 ?_
      obtain rfl := Option.some.inj e
      exact z_iret E M dL_free_17 rfl rfl rfl rfl (by decide) (by decide)
    cases e
  · refine z_kR2 (st := [.int (0 : Int32), .ref a2]) (av := [.ref a0, .int a1]) E 12 117 (z_rV (st := [.int (0 : Int32), .ref a2]) (av := [.int a1]) E Y_X9_free k_L_95 (ci := 11) rfl (zc_o (c_X9_free (z_El E) e3) (by rw [c5]; rfl)) dL_free_4 e1 rfl rfl (by decide) (by decide) (by decide) (by decide) (Nat.le_of_ble_eq_true rfl)) rfl rfl rfl ?_
    refine z_i2l (v := y6.toInt64) E dL_free_7 rfl ?_
    obtain ⟨h9, e10, e⟩ := ob e
    refine z_last E dL_free_8 e10 ?_
    refine z_goto (tgt := 18) E dL_free_9 rfl ?_
    refine z_iconst E dL_free_18 ic_0 ?_
    obtain rfl := Option.some.inj e
    exact z_iret E M dL_free_19 rfl rfl rfl rfl (by decide) (by decide)
theorem c_L_free {l : Launch} (hl : l.stackTraces = false) {h : PH} {a0 : Nat} {a1 : Int32} {a2 : Nat} {r : (Int32 × PH)} (e : f_L_free h a0 a1 a2 = some r) : CMet l yL_free (z_WH yL_free cL_free 4 (some .int) [(0, 9, 12, 20), (0, 9, 15, 15)]) rmL_free h [.ref a0, .int a1, .ref a2] (.inr (some (.int r.1))) r.2 :=
  z_metH hl Y_L_free (by decide +kernel) (Nat.le_of_ble_eq_true rfl) (fun X hX E T0 M => b_L_free E T0 e M)
abbrev rmX10_free : Room := { frames := 3, cells := 0, slots := 0, locals := 64 }
noncomputable def f_X10_free (h : PH) (a0 : Nat) (a1 : Int32) : Option (Int32 × PH) :=
  (gd h a0 12).bind fun _ =>
  (f_X10_isNone h a0 a1).bind fun p2 =>
  if p2.1 = false then
    (gd p2.2 a0 12).bind fun _ =>
    (f_X10_of p2.2 a0 a1 (2 : Int32)).bind fun p6 =>
    if p6 = (1 : Int32) then
      (rdR p2.2 a0 12 0).bind fun x9 =>
      (gd p2.2 a0 12).bind fun _ =>
      (f_X10_keeps p2.2 a0 x9).bind fun p12 =>
      (gd p12 a0 12).bind fun _ =>
      (f_X10_lays p12 a0 a1 (2 : Int32) (0 : Int32)).bind fun p15 =>
      (rdR p15 a0 12 0).bind fun x17 =>
      (alI .int p15 x17 (7 : Int32)).bind fun x19 =>
      (asI .int p15 x17 (7 : Int32) (x19 + (1 : Int32))).bind fun h21 =>
      (gd h21 a0 12).bind fun _ =>
      (f_X10_those h21 a0 (1 : Int32)).bind fun p24 =>
      (f_X10_bits p24).bind fun p26 =>
      some (p26, h21)
    else
      (gd p2.2 a0 12).bind fun _ =>
      (f_X10_denies p2.2 a0 (2 : Int32) (4 : Int32) a1).bind fun p29 =>
      some (p29.1, p29.2)
  else
    some ((0 : Int32), p2.2)
theorem b_X10_free {X : PX} (E : z_E X cX10_free RX10 "free" 2 rmX10_free (some .int)) (T0 : z_T0 X) {h : PH} {a0 : Nat} {a1 : Int32} {r : (Int32 × PH)} (e : f_X10_free h a0 a1 = some r) (M : z_M X rmX10_free.cells rmX10_free.slots (.inr (some (.int r.1))) r.2) : WP X 2 0 0 0 [(0, .ref a0), (1, .int a1)] [] h := by
  unfold f_X10_free at e
  refine z_aload_n E 0 dX10_free_0 rfl ?_
  refine z_iload_n E 1 dX10_free_1 rfl ?_
  obtain ⟨_, e1, e⟩ := ob e
  obtain ⟨p2, e3, e⟩ := ob e
  refine z_kR2 (st := []) (av := [.ref a0, .int a1]) E 0 0 (z_rV (st := []) (av := [.int a1]) E Y_X10_isNone k_X10_107 (ci := 12) rfl (c_X10_isNone (z_El E) e3) dX10_free_2 e1 rfl rfl (by decide) (by decide) (by decide) (by decide) (Nat.zero_le _)) rfl rfl rfl ?_
  rcases oi e with ⟨c4, e⟩ | ⟨c4, e⟩
  · refine z_if_eqT (tgt := 10) E dX10_free_5 rfl (zb_f c4) ?_
    refine z_aload_n E 0 dX10_free_10 rfl ?_
    refine z_iload_n E 1 dX10_free_11 rfl ?_
    refine z_iconst E dX10_free_12 ic_2 ?_
    obtain ⟨_, e5, e⟩ := ob e
    obtain ⟨p6, e7, e⟩ := ob e
    refine z_kR2 (st := []) (av := [.ref a0, .int a1, .int (2 : Int32)]) E 0 0 (z_rV (st := []) (av := [.int a1, .int (2 : Int32)]) E Y_X10_of k_X10_73 (ci := 12) rfl (c_X10_of (z_El E) e7) dX10_free_13 e5 rfl rfl (by decide) (by decide) (by decide) (by decide) (Nat.zero_le _)) rfl rfl rfl ?_
    refine z_iconst E dX10_free_16 ic_1 ?_
    rcases oi e with ⟨c8, e⟩ | ⟨c8, e⟩
    · refine z_icmp_eqT (tgt := 28) E dX10_free_17 rfl c8 ?_
      refine z_aload_n E 0 dX10_free_28 rfl ?_
      refine z_aload_n E 0 dX10_free_29 rfl ?_
      obtain ⟨x9, e10, e⟩ := ob e
      refine z_getR E fl_X10_7 dX10_free_30 e10 ?_
      obtain ⟨_, e11, e⟩ := ob e
      obtain ⟨p12, e13, e⟩ := ob e
      refine z_kV2 (st := []) (av := [.ref a0, .ref x9]) E 0 0 (z_rV (st := []) (av := [.ref x9]) E Y_X10_keeps k_X10_84 (ci := 12) rfl (c_X10_keeps (z_El E) e13) dX10_free_33 e11 rfl rfl (by decide) (by decide) (by decide) (by decide) (Nat.zero_le _)) rfl rfl rfl ?_
      refine z_aload_n E 0 dX10_free_36 rfl ?_
      refine z_iload_n E 1 dX10_free_37 rfl ?_
      refine z_iconst E dX10_free_38 ic_2 ?_
      refine z_iconst E dX10_free_39 ic_0 ?_
      obtain ⟨_, e14, e⟩ := ob e
      obtain ⟨p15, e16, e⟩ := ob e
      refine z_kV2 (st := []) (av := [.ref a0, .int a1, .int (2 : Int32), .int (0 : Int32)]) E 0 0 (z_rV (st := []) (av := [.int a1, .int (2 : Int32), .int (0 : Int32)]) E Y_X10_lays k_X10_88 (ci := 12) rfl (c_X10_lays (z_El E) e16) dX10_free_40 e14 rfl rfl (by decide) (by decide) (by decide) (by decide) (Nat.zero_le _)) rfl rfl rfl ?_
      refine z_aload_n E 0 dX10_free_43 rfl ?_
      obtain ⟨x17, e18, e⟩ := ob e
      refine z_getR E fl_X10_7 dX10_free_44 e18 ?_
      refine z_bipush E dX10_free_47 bp_7 ?_
      refine z_dup2 E dX10_free_49 rfl rfl ?_
      obtain ⟨x19, e20, e⟩ := ob e
      refine z_iald E dX10_free_50 e20 ?_
      refine z_iconst E dX10_free_51 ic_1 ?_
      refine z_iadd E dX10_free_52 ?_
      obtain ⟨h21, e22, e⟩ := ob e
      refine z_iast E dX10_free_53 e22 ?_
      refine z_aload_n E 0 dX10_free_54 rfl ?_
      refine z_iconst E dX10_free_55 ic_1 ?_
      obtain ⟨_, e23, e⟩ := ob e
      obtain ⟨p24, e25, e⟩ := ob e
      refine z_kR2 (st := []) (av := [.ref a0, .int (1 : Int32)]) E 0 0 (z_rV (st := []) (av := [.int (1 : Int32)]) E Y_X10_those k_X10_142 (ci := 12) rfl (c_X10_those (z_El E) e25) dX10_free_56 e23 rfl rfl (by decide) (by decide) (by decide) (by decide) (Nat.zero_le _)) rfl rfl rfl ?_
      obtain ⟨p26, e27, e⟩ := ob e
      refine z_kR2 (st := []) (av := [.int p24]) E 0 0 (z_rS (st := []) (av := [.int p24]) E Y_X10_bits k_X10_99 (c_X10_bits (z_El E) e27) dX10_free_59 rfl rfl (by decide) (by decide) (by decide) (by decide) (Nat.zero_le _)) rfl rfl rfl ?_
      obtain rfl := Option.some.inj e
      exact z_iret E M dX10_free_62 rfl rfl rfl rfl (by decide) (by decide)
    · refine z_icmp_eqF (tgt := 28) E dX10_free_17 rfl c8 ?_
      refine z_aload_n E 0 dX10_free_20 rfl ?_
      refine z_iconst E dX10_free_21 ic_2 ?_
      refine z_iconst E dX10_free_22 ic_4 ?_
      refine z_iload_n E 1 dX10_free_23 rfl ?_
      obtain ⟨_, e28, e⟩ := ob e
      obtain ⟨p29, e30, e⟩ := ob e
      refine z_kR2 (st := []) (av := [.ref a0, .int (2 : Int32), .int (4 : Int32), .int a1]) E 0 0 (z_rV (st := []) (av := [.int (2 : Int32), .int (4 : Int32), .int a1]) E Y_X10_denies k_X10_80 (ci := 12) rfl (c_X10_denies (z_El E) e30) dX10_free_24 e28 rfl rfl (by decide) (by decide) (by decide) (by decide) (Nat.zero_le _)) rfl rfl rfl ?_
      obtain rfl := Option.some.inj e
      exact z_iret E M dX10_free_27 rfl rfl rfl rfl (by decide) (by decide)
  · refine z_if_eqF (tgt := 10) E dX10_free_5 rfl (zb_nf c4) ?_
    refine z_iconst E dX10_free_8 ic_0 ?_
    obtain rfl := Option.some.inj e
    exact z_iret E M dX10_free_9 rfl rfl rfl rfl (by decide) (by decide)
theorem c_X10_free {l : Launch} (hl : l.stackTraces = false) {h : PH} {a0 : Nat} {a1 : Int32} {r : (Int32 × PH)} (e : f_X10_free h a0 a1 = some r) : CMet l yX10_free (z_W yX10_free cX10_free 2 (some .int)) rmX10_free h [.ref a0, .int a1] (.inr (some (.int r.1))) r.2 :=
  z_met hl Y_X10_free (by decide +kernel) (Nat.le_of_ble_eq_true rfl) (fun X hX E T0 M => b_X10_free E T0 e M)
abbrev rmX9_heldCount : Room := { frames := 3, cells := 0, slots := 0, locals := 64 }
noncomputable def f_X9_heldCount (h : PH) (a0 : Nat) : Option Int32 :=
  (rdR h a0 11 0).bind fun x1 =>
  (gd h x1 9).bind fun _ =>
  (f_X7_count h x1 (104 : Int32)).bind fun p4 =>
  some p4
theorem b_X9_heldCount {X : PX} (E : z_E X cX9_heldCount RX9 "heldCount" 1 rmX9_heldCount (some .int)) (T0 : z_T0 X) {h : PH} {a0 : Nat} {r : Int32} (e : f_X9_heldCount h a0 = some r) (M : z_M X rmX9_heldCount.cells rmX9_heldCount.slots (.inr (some (.int r))) h) : WP X 1 0 0 0 [(0, .ref a0)] [] h := by
  unfold f_X9_heldCount at e
  refine z_aload_n E 0 dX9_heldCount_0 rfl ?_
  obtain ⟨x1, e2, e⟩ := ob e
  refine z_getR E fl_X9_12 dX9_heldCount_1 e2 ?_
  refine z_bipush E dX9_heldCount_4 bp_104 ?_
  obtain ⟨_, e3, e⟩ := ob e
  obtain ⟨p4, e5, e⟩ := ob e
  refine z_kR2 (st := []) (av := [.ref x1, .int (104 : Int32)]) E 0 0 (z_rV (st := []) (av := [.int (104 : Int32)]) E Y_X7_count k_X9_168 (ci := 9) rfl (c_X7_count (z_El E) e5) dX9_heldCount_6 e3 rfl rfl (by decide) (by decide) (by decide) (by decide) (Nat.zero_le _)) rfl rfl rfl ?_
  obtain rfl := Option.some.inj e
  exact z_iret E M dX9_heldCount_9 rfl rfl rfl rfl (by decide) (by decide)
theorem c_X9_heldCount {l : Launch} (hl : l.stackTraces = false) {h : PH} {a0 : Nat} {r : Int32} (e : f_X9_heldCount h a0 = some r) : CMet l yX9_heldCount (z_W yX9_heldCount cX9_heldCount 1 (some .int)) rmX9_heldCount h [.ref a0] (.inr (some (.int r))) h :=
  z_met hl Y_X9_heldCount (by decide +kernel) (Nat.le_of_ble_eq_true rfl) (fun X hX E T0 M => b_X9_heldCount E T0 e M)
abbrev rmX10_heldCount : Room := { frames := 2, cells := 0, slots := 0, locals := 45 }
noncomputable def f_X10_heldCount (h : PH) (a0 : Nat) : Option (Int32 × PH) :=
  (wr h a0 12 8 (.int (0 : Int32))).bind fun h1 =>
  (gd h1 a0 12).bind fun _ =>
  (f_X10_those h1 a0 (1 : Int32)).bind fun p4 =>
  (f_X10_bits p4).bind fun p6 =>
  some (p6, h1)
theorem b_X10_heldCount {X : PX} (E : z_E X cX10_heldCount RX10 "heldCount" 1 rmX10_heldCount (some .int)) (T0 : z_T0 X) {h : PH} {a0 : Nat} {r : (Int32 × PH)} (e : f_X10_heldCount h a0 = some r) (M : z_M X rmX10_heldCount.cells rmX10_heldCount.slots (.inr (some (.int r.1))) r.2) : WP X 1 0 0 0 [(0, .ref a0)] [] h := by
  unfold f_X10_heldCount at e
  refine z_aload_n E 0 dX10_heldCount_0 rfl ?_
  refine z_iconst E dX10_heldCount_1 ic_0 ?_
  obtain ⟨h1, e2, e⟩ := ob e
  refine z_putI E fp_X10_36 (Or.inl rfl) dX10_heldCount_2 e2 ?_
  refine z_aload_n E 0 dX10_heldCount_5 rfl ?_
  refine z_iconst E dX10_heldCount_6 ic_1 ?_
  obtain ⟨_, e3, e⟩ := ob e
  obtain ⟨p4, e5, e⟩ := ob e
  refine z_kR2 (st := []) (av := [.ref a0, .int (1 : Int32)]) E 0 0 (z_rV (st := []) (av := [.int (1 : Int32)]) E Y_X10_those k_X10_142 (ci := 12) rfl (c_X10_those (z_El E) e5) dX10_heldCount_7 e3 rfl rfl (by decide) (by decide) (by decide) (by decide) (Nat.zero_le _)) rfl rfl rfl ?_
  obtain ⟨p6, e7, e⟩ := ob e
  refine z_kR2 (st := []) (av := [.int p4]) E 0 0 (z_rS (st := []) (av := [.int p4]) E Y_X10_bits k_X10_99 (c_X10_bits (z_El E) e7) dX10_heldCount_10 rfl rfl (by decide) (by decide) (by decide) (by decide) (Nat.zero_le _)) rfl rfl rfl ?_
  obtain rfl := Option.some.inj e
  exact z_iret E M dX10_heldCount_13 rfl rfl rfl rfl (by decide) (by decide)
theorem c_X10_heldCount {l : Launch} (hl : l.stackTraces = false) {h : PH} {a0 : Nat} {r : (Int32 × PH)} (e : f_X10_heldCount h a0 = some r) : CMet l yX10_heldCount (z_W yX10_heldCount cX10_heldCount 1 (some .int)) rmX10_heldCount h [.ref a0] (.inr (some (.int r.1))) r.2 :=
  z_met hl Y_X10_heldCount (by decide +kernel) (Nat.le_of_ble_eq_true rfl) (fun X hX E T0 M => b_X10_heldCount E T0 e M)
abbrev rmX9_bestLanding : Room := { frames := 4, cells := 0, slots := 0, locals := 96 }
noncomputable def f_X9_bestLanding (h : PH) (a0 : Nat) : Option (Int32 × PH) :=
  (rdR h a0 11 0).bind fun x1 =>
  (rdR h a0 11 3).bind fun x3 =>
  (rdR h a0 11 0).bind fun x5 =>
  (gd h x3 8).bind fun _ =>
  (f_X6_choose h x3 x5).bind fun p8 =>
  (gd p8.2 x1 9).bind fun _ =>
  (f_X7_weightOfAll p8.2 x1 p8.1).bind fun p11 =>
  some (p11, p8.2)
theorem b_X9_bestLanding {X : PX} (E : z_E X cX9_bestLanding RX9 "bestLanding" 1 rmX9_bestLanding (some .int)) (T0 : z_T0 X) {h : PH} {a0 : Nat} {r : (Int32 × PH)} (e : f_X9_bestLanding h a0 = some r) (M : z_M X rmX9_bestLanding.cells rmX9_bestLanding.slots (.inr (some (.int r.1))) r.2) : WP X 1 0 0 0 [(0, .ref a0)] [] h := by
  unfold f_X9_bestLanding at e
  refine z_aload_n E 0 dX9_bestLanding_0 rfl ?_
  obtain ⟨x1, e2, e⟩ := ob e
  refine z_getR E fl_X9_12 dX9_bestLanding_1 e2 ?_
  refine z_aload_n E 0 dX9_bestLanding_4 rfl ?_
  obtain ⟨x3, e4, e⟩ := ob e
  refine z_getR E fl_X9_29 dX9_bestLanding_5 e4 ?_
  refine z_aload_n E 0 dX9_bestLanding_8 rfl ?_
  obtain ⟨x5, e6, e⟩ := ob e
  refine z_getR E fl_X9_12 dX9_bestLanding_9 e6 ?_
  obtain ⟨_, e7, e⟩ := ob e
  obtain ⟨p8, e9, e⟩ := ob e
  refine z_kR2 (st := [.ref x1]) (av := [.ref x3, .ref x5]) E 0 0 (z_rV (st := [.ref x1]) (av := [.ref x5]) E Y_X6_choose k_X9_172 (ci := 8) rfl (c_X6_choose (z_El E) e9) dX9_bestLanding_12 e7 rfl rfl (by decide) (by decide) (by decide) (by decide) (Nat.le_of_ble_eq_true rfl)) rfl rfl rfl ?_
  obtain ⟨_, e10, e⟩ := ob e
  obtain ⟨p11, e12, e⟩ := ob e
  refine z_kR2 (st := []) (av := [.ref x1, .int p8.1]) E 0 0 (z_rV (st := []) (av := [.int p8.1]) E Y_X7_weightOfAll k_X9_175 (ci := 9) rfl (c_X7_weightOfAll (z_El E) e12) dX9_bestLanding_15 e10 rfl rfl (by decide) (by decide) (by decide) (by decide) (Nat.zero_le _)) rfl rfl rfl ?_
  obtain rfl := Option.some.inj e
  exact z_iret E M dX9_bestLanding_18 rfl rfl rfl rfl (by decide) (by decide)
theorem c_X9_bestLanding {l : Launch} (hl : l.stackTraces = false) {h : PH} {a0 : Nat} {r : (Int32 × PH)} (e : f_X9_bestLanding h a0 = some r) : CMet l yX9_bestLanding (z_W yX9_bestLanding cX9_bestLanding 1 (some .int)) rmX9_bestLanding h [.ref a0] (.inr (some (.int r.1))) r.2 :=
  z_met hl Y_X9_bestLanding (by decide +kernel) (Nat.le_of_ble_eq_true rfl) (fun X hX E T0 M => b_X9_bestLanding E T0 e M)
abbrev rmX10_bestLanding : Room := { frames := 4, cells := 0, slots := 0, locals := 94 }
noncomputable def f_X10_bestLanding (h : PH) (a0 : Nat) : Option (Int32 × PH) :=
  (wr h a0 12 8 (.int (0 : Int32))).bind fun h1 =>
  (gd h1 a0 12).bind fun _ =>
  (f_X10_landing h1 a0).bind fun p4 =>
  (gd h1 a0 12).bind fun _ =>
  (f_X10_heavy h1 a0 p4).bind fun p7 =>
  some (p7, h1)
theorem b_X10_bestLanding {X : PX} (E : z_E X cX10_bestLanding RX10 "bestLanding" 1 rmX10_bestLanding (some .int)) (T0 : z_T0 X) {h : PH} {a0 : Nat} {r : (Int32 × PH)} (e : f_X10_bestLanding h a0 = some r) (M : z_M X rmX10_bestLanding.cells rmX10_bestLanding.slots (.inr (some (.int r.1))) r.2) : WP X 1 0 0 0 [(0, .ref a0)] [] h := by
  unfold f_X10_bestLanding at e
  refine z_aload_n E 0 dX10_bestLanding_0 rfl ?_
  refine z_iconst E dX10_bestLanding_1 ic_0 ?_
  obtain ⟨h1, e2, e⟩ := ob e
  refine z_putI E fp_X10_36 (Or.inl rfl) dX10_bestLanding_2 e2 ?_
  refine z_aload_n E 0 dX10_bestLanding_5 rfl ?_
  refine z_aload_n E 0 dX10_bestLanding_6 rfl ?_
  obtain ⟨_, e3, e⟩ := ob e
  obtain ⟨p4, e5, e⟩ := ob e
  refine z_kR2 (st := [.ref a0]) (av := [.ref a0]) E 0 0 (z_rV (st := [.ref a0]) (av := []) E Y_X10_landing k_X10_166 (ci := 12) rfl (c_X10_landing (z_El E) e5) dX10_bestLanding_7 e3 rfl rfl (by decide) (by decide) (by decide) (by decide) (Nat.le_of_ble_eq_true rfl)) rfl rfl rfl ?_
  obtain ⟨_, e6, e⟩ := ob e
  obtain ⟨p7, e8, e⟩ := ob e
  refine z_kR2 (st := []) (av := [.ref a0, .int p4]) E 0 0 (z_rV (st := []) (av := [.int p4]) E Y_X10_heavy k_X10_160 (ci := 12) rfl (c_X10_heavy (z_El E) e8) dX10_bestLanding_10 e6 rfl rfl (by decide) (by decide) (by decide) (by decide) (Nat.zero_le _)) rfl rfl rfl ?_
  obtain rfl := Option.some.inj e
  exact z_iret E M dX10_bestLanding_13 rfl rfl rfl rfl (by decide) (by decide)
theorem c_X10_bestLanding {l : Launch} (hl : l.stackTraces = false) {h : PH} {a0 : Nat} {r : (Int32 × PH)} (e : f_X10_bestLanding h a0 = some r) : CMet l yX10_bestLanding (z_W yX10_bestLanding cX10_bestLanding 1 (some .int)) rmX10_bestLanding h [.ref a0] (.inr (some (.int r.1))) r.2 :=
  z_met hl Y_X10_bestLanding (by decide +kernel) (Nat.le_of_ble_eq_true rfl) (fun X hX E T0 M => b_X10_bestLanding E T0 e M)
abbrev rmX6_fits : Room := { frames := 3, cells := 0, slots := 0, locals := 64 }
noncomputable def f_X6_fits_L2 : Nat → PH → Nat → Nat → Int32 → Int32 → Option PH
  | 0, _, _, _, _, _ => none
  | fu + 1, h, v0, v1, v2, v3 =>
    if (12 : Int32) ≤ v3 then
      some h
    else
      (rdR h v0 8 1).bind fun x2 =>
      (gd h v1 9).bind fun _ =>
      (f_X7_roomOn h v1 v3).bind fun p5 =>
      (asI .int h x2 v3 p5).bind fun h7 =>
      f_X6_fits_L2 fu h7 v0 v1 v2 (v3 + (1 : Int32))
theorem b_X6_fits_L2 {X : PX} (E : z_E X cX6_fits RX6 "fits" 4 rmX6_fits (some .boolean)) (T0 : z_T0 X) {k n : Nat} (hk : k + 0 ≤ rmX6_fits.cells) (hn : n + 0 ≤ rmX6_fits.slots) {s : PH} : ∀ (fu : Nat) (h : PH) (v0 : Nat) (v1 : Nat) (v2 : Int32) (v3 : Int32) (e : f_X6_fits_L2 fu h v0 v1 v2 v3 = some s) (kk : WP X 4 k n 25 [(0, .ref v0), (1, .ref v1), (2, .int v2)] [] s), WP X 4 k n 2 [(0, .ref v0), (1, .ref v1), (2, .int v2), (3, .int v3)] [] h := by
  intro fu
  induction fu with
  | zero => intro h v0 v1 v2 v3 e; exact absurd (show (none : Option PH) = some s from e) (by intro z; cases z)
  | succ fu ih =>
    intro h v0 v1 v2 v3 e kk
    unfold f_X6_fits_L2 at e
    refine z_iload_n E 3 dX6_fits_2 rfl ?_
    refine z_bipush E dX6_fits_3 bp_12 ?_
    rcases oi e with ⟨c1, e⟩ | ⟨c1, e⟩
    · refine z_icmp_geT (tgt := 25) E dX6_fits_5 rfl c1 ?_
      obtain rfl := Option.some.inj e
      exact z_sub [0, 1, 2] rfl kk
    · refine z_icmp_geF (tgt := 25) E dX6_fits_5 rfl c1 ?_
      refine z_aload_n E 0 dX6_fits_8 rfl ?_
      obtain ⟨x2, e3, e⟩ := ob e
      refine z_getR E fl_X6_15 dX6_fits_9 e3 ?_
      refine z_iload_n E 3 dX6_fits_12 rfl ?_
      refine z_aload_n E 1 dX6_fits_13 rfl ?_
      refine z_iload_n E 3 dX6_fits_14 rfl ?_
      obtain ⟨_, e4, e⟩ := ob e
      obtain ⟨p5, e6, e⟩ := ob e
      refine z_kR2 (st := [.int v3, .ref x2]) (av := [.ref v1, .int v3]) E k n (z_rV (st := [.int v3, .ref x2]) (av := [.int v3]) E Y_X7_roomOn k_X6_28 (ci := 9) rfl (c_X7_roomOn (z_El E) e6) dX6_fits_15 e4 rfl rfl (by decide) (by decide) (zk (k := k) (a := 0) hk (by decide)) (zk (k := n) (a := 0) hn (by decide)) (Nat.le_of_ble_eq_true rfl)) rfl rfl rfl ?_
      obtain ⟨h7, e8, e⟩ := ob e
      refine z_iast E dX6_fits_18 e8 ?_
      refine z_iinc (v := (v3 + (1 : Int32))) (lv2 := [(3, .int (v3 + (1 : Int32))), (0, .ref v0), (1, .ref v1), (2, .int v2)]) E 3 dX6_fits_19 rfl (congrArg (v3 + ·) ic_1) (by decide) rfl ?_
      refine z_goto (tgt := 2) E dX6_fits_22 rfl ?_
      exact z_sub [1, 2, 3, 0] rfl (ih _ _ _ _ _ e kk)
noncomputable def f_X6_fits_L27 : Nat → PH → Nat → Nat → Int32 → Int32 → Option ((Bool × PH) ⊕ PH)
  | 0, _, _, _, _, _ => none
  | fu + 1, h, v0, v1, v2, v3 =>
    (rdI h v1 9 0).bind fun x1 =>
    if x1 ≤ v3 then
      some (Sum.inr h)
    else
      if (f_X9_has v2 v3) = false then
        f_X6_fits_L27 fu h v0 v1 v2 (v3 + (1 : Int32))
      else
        (rdR h v0 8 1).bind fun x5 =>
        (rdR h v1 9 1).bind fun x7 =>
        (alI .int h x7 v3).bind fun x9 =>
        (alI .int h x5 x9).bind fun x11 =>
        (rdR h v1 9 2).bind fun x13 =>
        (alI .int h x13 v3).bind fun x15 =>
        (asI .int h x5 x9 (x11 - x15)).bind fun h17 =>
        (rdR h17 v0 8 1).bind fun x19 =>
        (rdR h17 v1 9 1).bind fun x21 =>
        (alI .int h17 x21 v3).bind fun x23 =>
        (alI .int h17 x19 x23).bind fun x25 =>
        if 0 ≤ x25 then
          f_X6_fits_L27 fu h17 v0 v1 v2 (v3 + (1 : Int32))
        else
          some (Sum.inl (false, h17))
theorem b_X6_fits_L27 {X : PX} (E : z_E X cX6_fits RX6 "fits" 4 rmX6_fits (some .boolean)) (T0 : z_T0 X) {k n : Nat} (hk : k + 0 ≤ rmX6_fits.cells) (hn : n + 0 ≤ rmX6_fits.slots) {s : ((Bool × PH) ⊕ PH)} : ∀ (fu : Nat) (h : PH) (v0 : Nat) (v1 : Nat) (v2 : Int32) (v3 : Int32) (e : f_X6_fits_L27 fu h v0 v1 v2 v3 = some s) (M : ∀ q, s = Sum.inl q → z_M X rmX6_fits.cells rmX6_fits.slots (.inr (some (.int (zb q.1)))) q.2) (kk : ∀ t, s = Sum.inr t → WP X 4 k n 85 [] [] t), WP X 4 k n 27 [(0, .ref v0), (1, .ref v1), (2, .int v2), (3, .int v3)] [] h := by
  intro fu
  induction fu with
  | zero => intro h v0 v1 v2 v3 e; exact absurd (show (none : Option ((Bool × PH) ⊕ PH)) = some s from e) (by intro z; cases z)
  | succ fu ih =>
    intro h v0 v1 v2 v3 e M kk
    unfold f_X6_fits_L27 at e
    refine z_iload_n E 3 dX6_fits_27 rfl ?_
    refine z_aload_n E 1 dX6_fits_28 rfl ?_
    obtain ⟨x1, e2, e⟩ := ob e
    refine z_getI E fl_X6_35 dX6_fits_29 e2 ?_
    rcases oi e with ⟨c3, e⟩ | ⟨c3, e⟩
    · refine z_icmp_geT (tgt := 85) E dX6_fits_32 rfl c3 ?_
      obtain rfl := Option.some.inj e
      exact z_sub [] rfl (kk _ rfl)
    · refine z_icmp_geF (tgt := 85) E dX6_fits_32 rfl c3 ?_
      refine z_iload_n E 2 dX6_fits_35 rfl ?_
      refine z_iload_n E 3 dX6_fits_36 rfl ?_
      refine z_kR2 (st := []) (av := [.int v2, .int v3]) E k n (z_rSN (st := []) (av := [.int v2, .int v3]) E Y_X9_has k_X6_39 (c_X9_has (l := z_l X) (h := h) (z_El E) v2 v3) dX6_fits_37 rfl rfl (by decide) (by decide) (zk (k := k) (a := 0) hk (by decide)) (zk (k := n) (a := 0) hn (by decide)) (Nat.zero_le _)) rfl rfl rfl ?_
      rcases oi e with ⟨c4, e⟩ | ⟨c4, e⟩
      · refine z_if_eqT (tgt := 79) E dX6_fits_40 rfl (zb_f c4) ?_
        refine z_iinc (v := (v3 + (1 : Int32))) (lv2 := [(3, .int (v3 + (1 : Int32))), (0, .ref v0), (1, .ref v1), (2, .int v2)]) E 3 dX6_fits_79 rfl (congrArg (v3 + ·) ic_1) (by decide) rfl ?_
        refine z_goto (tgt := 27) E dX6_fits_82 rfl ?_
        exact z_sub [1, 2, 3, 0] rfl (ih _ _ _ _ _ e M kk)
      · refine z_if_eqF (tgt := 79) E dX6_fits_40 rfl (zb_nf c4) ?_
        refine z_aload_n E 0 dX6_fits_43 rfl ?_
        obtain ⟨x5, e6, e⟩ := ob e
        refine z_getR E fl_X6_15 dX6_fits_44 e6 ?_
        refine z_aload_n E 1 dX6_fits_47 rfl ?_
        obtain ⟨x7, e8, e⟩ := ob e
        refine z_getR E fl_X6_43 dX6_fits_48 e8 ?_
        refine z_iload_n E 3 dX6_fits_51 rfl ?_
        obtain ⟨x9, e10, e⟩ := ob e
        refine z_iald E dX6_fits_52 e10 ?_
        refine z_dup2 E dX6_fits_53 rfl rfl ?_
        obtain ⟨x11, e12, e⟩ := ob e
        refine z_iald E dX6_fits_54 e12 ?_
        refine z_aload_n E 1 dX6_fits_55 rfl ?_
        obtain ⟨x13, e14, e⟩ := ob e
        refine z_getR E fl_X6_61 dX6_fits_56 e14 ?_
        refine z_iload_n E 3 dX6_fits_59 rfl ?_
        obtain ⟨x15, e16, e⟩ := ob e
        refine z_iald E dX6_fits_60 e16 ?_
        refine z_isub E dX6_fits_61 ?_
        obtain ⟨h17, e18, e⟩ := ob e
        refine z_iast E dX6_fits_62 e18 ?_
        refine z_aload_n E 0 dX6_fits_63 rfl ?_
        obtain ⟨x19, e20, e⟩ := ob e
        refine z_getR E fl_X6_15 dX6_fits_64 e20 ?_
        refine z_aload_n E 1 dX6_fits_67 rfl ?_
        obtain ⟨x21, e22, e⟩ := ob e
        refine z_getR E fl_X6_43 dX6_fits_68 e22 ?_
        refine z_iload_n E 3 dX6_fits_71 rfl ?_
        obtain ⟨x23, e24, e⟩ := ob e
        refine z_iald E dX6_fits_72 e24 ?_
        obtain ⟨x25, e26, e⟩ := ob e
        refine z_iald E dX6_fits_73 e26 ?_
        rcases oi e with ⟨c27, e⟩ | ⟨c27, e⟩
        · refine z_if_geT (tgt := 79) E dX6_fits_74 rfl c27 ?_
          refine z_iinc (v := (v3 + (1 : Int32))) (lv2 := [(3, .int (v3 + (1 : Int32))), (0, .ref v0), (1, .ref v1), (2, .int v2)]) E 3 dX6_fits_79 rfl (congrArg (v3 + ·) ic_1) (by decide) rfl ?_
          refine z_goto (tgt := 27) E dX6_fits_82 rfl ?_
          exact z_sub [1, 2, 3, 0] rfl (ih _ _ _ _ _ e M kk)
        · refine z_if_geF (tgt := 79) E dX6_fits_74 rfl c27 ?_
          refine z_iconst E dX6_fits_77 ic_0 ?_
          have M := M _ (Option.some.inj e).symm
          exact z_iret E M dX6_fits_78 rfl rfl rfl rfl (zk (k := k) (a := 0) hk (by decide)) (zk (k := n) (a := 0) hn (by decide))
noncomputable def f_X6_fits (h : PH) (a0 : Nat) (a1 : Nat) (a2 : Int32) : Option (Bool × PH) :=
  (f_X6_fits_L2 FV h a0 a1 a2 (0 : Int32)).bind fun s1 =>
  (f_X6_fits_L27 FV s1 a0 a1 a2 (0 : Int32)).bind fun s3 =>
  Sum.elim (fun q5 => some q5) (fun t6 =>
    some (true, t6)) s3
theorem b_X6_fits {X : PX} (E : z_E X cX6_fits RX6 "fits" 4 rmX6_fits (some .boolean)) (T0 : z_T0 X) {h : PH} {a0 : Nat} {a1 : Nat} {a2 : Int32} {r : (Bool × PH)} (e : f_X6_fits h a0 a1 a2 = some r) (M : z_M X rmX6_fits.cells rmX6_fits.slots (.inr (some (.int (zb r.1)))) r.2) : WP X 4 0 0 0 [(0, .ref a0), (1, .ref a1), (2, .int a2)] [] h := by
  unfold f_X6_fits at e
  refine z_iconst E dX6_fits_0 ic_0 ?_
  refine z_istore_n (lv2 := [(3, .int (0 : Int32)), (0, .ref a0), (1, .ref a1), (2, .int a2)]) E dX6_fits_1 (by decide) rfl ?_
  obtain ⟨s1, e2, e⟩ := ob e
  refine z_sub [1, 2, 3, 0] rfl (b_X6_fits_L2 E T0 (by decide) (by decide) FV _ _ _ _ _ e2 ?_)
  refine z_iconst E dX6_fits_25 ic_0 ?_
  refine z_istore_n (lv2 := [(3, .int (0 : Int32)), (0, .ref a0), (1, .ref a1), (2, .int a2)]) E dX6_fits_26 (by decide) rfl ?_
  obtain ⟨s3, e4, e⟩ := ob e
  refine z_sub [1, 2, 3, 0] rfl (b_X6_fits_L27 E T0 (by decide) (by decide) FV _ _ _ _ _ e4 (fun q5 c7 => ?_) (fun t6 c7 => ?_))
  · have e := os_l e c7
    obtain rfl := Option.some.inj e
    exact M
  · have e := os_r e c7
    refine z_iconst E dX6_fits_85 ic_1 ?_
    obtain rfl := Option.some.inj e
    exact z_iret E M dX6_fits_86 rfl rfl rfl rfl (by decide) (by decide)
theorem c_X6_fits {l : Launch} (hl : l.stackTraces = false) {h : PH} {a0 : Nat} {a1 : Nat} {a2 : Int32} {r : (Bool × PH)} (e : f_X6_fits h a0 a1 a2 = some r) : CMet l yX6_fits (z_W yX6_fits cX6_fits 4 (some .boolean)) rmX6_fits h [.ref a0, .ref a1, .int a2] (.inr (some (.int (zb r.1)))) r.2 :=
  z_met hl Y_X6_fits (by decide +kernel) (Nat.le_of_ble_eq_true rfl) (fun X hX E T0 M => b_X6_fits E T0 e M)
abbrev rmX6_heaviestSet : Room := { frames := 4, cells := 0, slots := 0, locals := 87 }
noncomputable def f_X6_heaviestSet_L12 : Nat → PH → Nat → Nat → Int32 → Int32 → Int32 → Option (Int32 × PH)
  | 0, _, _, _, _, _, _ => none
  | fu + 1, h, v0, v1, v2, v3, v4 =>
    if v2 < v4 then
      some (v3, h)
    else
      if ¬ (v4 &&& (v2 ^^^ (-1 : Int32))) = 0 then
        f_X6_heaviestSet_L12 fu h v0 v1 v2 v3 (v4 + (1 : Int32))
      else
        (gd h v0 8).bind fun _ =>
        (f_X6_fits h v0 v1 v4).bind fun p4 =>
        if p4.1 = false then
          f_X6_heaviestSet_L12 fu p4.2 v0 v1 v2 v3 (v4 + (1 : Int32))
        else
          (gd p4.2 v1 9).bind fun _ =>
          (f_X7_weightOfAll p4.2 v1 v4).bind fun p8 =>
          f_X6_heaviestSet_L12 fu p4.2 v0 v1 v2 (f_J9_max_7cf53 v3 p8) (v4 + (1 : Int32))
theorem b_X6_heaviestSet_L12 {X : PX} (E : z_E X cX6_heaviestSet RX6 "heaviestSet" 5 rmX6_heaviestSet (some .int)) (T0 : z_T0 X) {k n : Nat} (hk : k + 0 ≤ rmX6_heaviestSet.cells) (hn : n + 0 ≤ rmX6_heaviestSet.slots) {s : (Int32 × PH)} : ∀ (fu : Nat) (h : PH) (v0 : Nat) (v1 : Nat) (v2 : Int32) (v3 : Int32) (v4 : Int32) (e : f_X6_heaviestSet_L12 fu h v0 v1 v2 v3 v4 = some s) (kk : WP X 5 k n 54 [(3, .int s.1)] [] s.2), WP X 5 k n 12 [(0, .ref v0), (1, .ref v1), (2, .int v2), (3, .int v3), (4, .int v4)] [] h := by
  intro fu
  induction fu with
  | zero => intro h v0 v1 v2 v3 v4 e; exact absurd (show (none : Option (Int32 × PH)) = some s from e) (by intro z; cases z)
  | succ fu ih =>
    intro h v0 v1 v2 v3 v4 e kk
    unfold f_X6_heaviestSet_L12 at e
    refine z_iload E 4 dX6_heaviestSet_12 rfl ?_
    refine z_iload_n E 2 dX6_heaviestSet_14 rfl ?_
    rcases oi e with ⟨c1, e⟩ | ⟨c1, e⟩
    · refine z_icmp_gtT (tgt := 54) E dX6_heaviestSet_15 rfl c1 ?_
      obtain rfl := Option.some.inj e
      exact z_sub [3] rfl kk
    · refine z_icmp_gtF (tgt := 54) E dX6_heaviestSet_15 rfl c1 ?_
      refine z_iload E 4 dX6_heaviestSet_18 rfl ?_
      refine z_iload_n E 2 dX6_heaviestSet_20 rfl ?_
      refine z_iconst E dX6_heaviestSet_21 ic_m1 ?_
      refine z_ixor E dX6_heaviestSet_22 ?_
      refine z_iand E dX6_heaviestSet_23 ?_
      rcases oi e with ⟨c2, e⟩ | ⟨c2, e⟩
      · refine z_if_neT (tgt := 48) E dX6_heaviestSet_24 rfl c2 ?_
        refine z_iinc (v := (v4 + (1 : Int32))) (lv2 := [(4, .int (v4 + (1 : Int32))), (0, .ref v0), (1, .ref v1), (2, .int v2), (3, .int v3)]) E 4 dX6_heaviestSet_48 rfl (congrArg (v4 + ·) ic_1) (by decide) rfl ?_
        refine z_goto (tgt := 12) E dX6_heaviestSet_51 rfl ?_
        exact z_sub [1, 2, 3, 4, 0] rfl (ih _ _ _ _ _ _ e kk)
      · refine z_if_neF (tgt := 48) E dX6_heaviestSet_24 rfl (Classical.not_not.mp c2) ?_
        refine z_aload_n E 0 dX6_heaviestSet_27 rfl ?_
        refine z_aload_n E 1 dX6_heaviestSet_28 rfl ?_
        refine z_iload E 4 dX6_heaviestSet_29 rfl ?_
        obtain ⟨_, e3, e⟩ := ob e
        obtain ⟨p4, e5, e⟩ := ob e
        refine z_kR2 (st := []) (av := [.ref v0, .ref v1, .int v4]) E k n (z_rV (st := []) (av := [.ref v1, .int v4]) E Y_X6_fits k_X6_74 (ci := 8) rfl (c_X6_fits (z_El E) e5) dX6_heaviestSet_31 e3 rfl rfl (by decide) (by decide) (zk (k := k) (a := 0) hk (by decide)) (zk (k := n) (a := 0) hn (by decide)) (Nat.zero_le _)) rfl rfl rfl ?_
        rcases oi e with ⟨c6, e⟩ | ⟨c6, e⟩
        · refine z_if_eqT (tgt := 48) E dX6_heaviestSet_34 rfl (zb_f c6) ?_
          refine z_iinc (v := (v4 + (1 : Int32))) (lv2 := [(4, .int (v4 + (1 : Int32))), (0, .ref v0), (1, .ref v1), (2, .int v2), (3, .int v3)]) E 4 dX6_heaviestSet_48 rfl (congrArg (v4 + ·) ic_1) (by decide) rfl ?_
          refine z_goto (tgt := 12) E dX6_heaviestSet_51 rfl ?_
          exact z_sub [1, 2, 3, 4, 0] rfl (ih _ _ _ _ _ _ e kk)
        · refine z_if_eqF (tgt := 48) E dX6_heaviestSet_34 rfl (zb_nf c6) ?_
          refine z_iload_n E 3 dX6_heaviestSet_37 rfl ?_
          refine z_aload_n E 1 dX6_heaviestSet_38 rfl ?_
          refine z_iload E 4 dX6_heaviestSet_39 rfl ?_
          obtain ⟨_, e7, e⟩ := ob e
          obtain ⟨p8, e9, e⟩ := ob e
          refine z_kR2 (st := [.int v3]) (av := [.ref v1, .int v4]) E k n (z_rV (st := [.int v3]) (av := [.int v4]) E Y_X7_weightOfAll k_X6_78 (ci := 9) rfl (c_X7_weightOfAll (z_El E) e9) dX6_heaviestSet_41 e7 rfl rfl (by decide) (by decide) (zk (k := k) (a := 0) hk (by decide)) (zk (k := n) (a := 0) hn (by decide)) (Nat.le_of_ble_eq_true rfl)) rfl rfl rfl ?_
          refine z_kR2 (st := []) (av := [.int v3, .int p8]) E k n (z_rS (st := []) (av := [.int v3, .int p8]) E Y_J9_max_7cf53 k_X6_71 (c_J9_max_7cf53 (l := z_l X) (h := p4.2) (z_El E) v3 p8) dX6_heaviestSet_44 rfl rfl (by decide) (by decide) (zk (k := k) (a := 0) hk (by decide)) (zk (k := n) (a := 0) hn (by decide)) (Nat.zero_le _)) rfl rfl rfl ?_
          refine z_istore_n (lv2 := [(3, .int (f_J9_max_7cf53 v3 p8)), (0, .ref v0), (1, .ref v1), (2, .int v2), (4, .int v4)]) E dX6_heaviestSet_47 (by decide) rfl ?_
          refine z_iinc (v := (v4 + (1 : Int32))) (lv2 := [(4, .int (v4 + (1 : Int32))), (3, .int (f_J9_max_7cf53 v3 p8)), (0, .ref v0), (1, .ref v1), (2, .int v2)]) E 4 dX6_heaviestSet_48 rfl (congrArg (v4 + ·) ic_1) (by decide) rfl ?_
          refine z_goto (tgt := 12) E dX6_heaviestSet_51 rfl ?_
          exact z_sub [2, 3, 4, 1, 0] rfl (ih _ _ _ _ _ _ e kk)
noncomputable def f_X6_heaviestSet (h : PH) (a0 : Nat) (a1 : Nat) : Option (Int32 × PH) :=
  (gd h a1 9).bind fun _ =>
  (f_X7_setOf h a1 (104 : Int32)).bind fun p2 =>
  (f_X6_heaviestSet_L12 FV h a0 a1 p2 (0 : Int32) (1 : Int32)).bind fun s4 =>
  some (s4.1, s4.2)
theorem b_X6_heaviestSet {X : PX} (E : z_E X cX6_heaviestSet RX6 "heaviestSet" 5 rmX6_heaviestSet (some .int)) (T0 : z_T0 X) {h : PH} {a0 : Nat} {a1 : Nat} {r : (Int32 × PH)} (e : f_X6_heaviestSet h a0 a1 = some r) (M : z_M X rmX6_heaviestSet.cells rmX6_heaviestSet.slots (.inr (some (.int r.1))) r.2) : WP X 5 0 0 0 [(0, .ref a0), (1, .ref a1)] [] h := by
  unfold f_X6_heaviestSet at e
  refine z_aload_n E 1 dX6_heaviestSet_0 rfl ?_
  refine z_bipush E dX6_heaviestSet_1 bp_104 ?_
  obtain ⟨_, e1, e⟩ := ob e
  obtain ⟨p2, e3, e⟩ := ob e
  refine z_kR2 (st := []) (av := [.ref a1, .int (104 : Int32)]) E 0 0 (z_rV (st := []) (av := [.int (104 : Int32)]) E Y_X7_setOf k_X6_18 (ci := 9) rfl (c_X7_setOf (z_El E) e3) dX6_heaviestSet_3 e1 rfl rfl (by decide) (by decide) (by decide) (by decide) (Nat.zero_le _)) rfl rfl rfl ?_
  refine z_istore_n (lv2 := [(2, .int p2), (0, .ref a0), (1, .ref a1)]) E dX6_heaviestSet_6 (by decide) rfl ?_
  refine z_iconst E dX6_heaviestSet_7 ic_0 ?_
  refine z_istore_n (lv2 := [(3, .int (0 : Int32)), (2, .int p2), (0, .ref a0), (1, .ref a1)]) E dX6_heaviestSet_8 (by decide) rfl ?_
  refine z_iconst E dX6_heaviestSet_9 ic_1 ?_
  refine z_istore (lv2 := [(4, .int (1 : Int32)), (3, .int (0 : Int32)), (2, .int p2), (0, .ref a0), (1, .ref a1)]) E dX6_heaviestSet_10 (by decide) rfl ?_
  obtain ⟨s4, e5, e⟩ := ob e
  refine z_sub [3, 4, 2, 1, 0] rfl (b_X6_heaviestSet_L12 E T0 (by decide) (by decide) FV _ _ _ _ _ _ e5 ?_)
  refine z_iload_n E 0 dX6_heaviestSet_54 rfl ?_
  obtain rfl := Option.some.inj e
  exact z_iret E M dX6_heaviestSet_55 rfl rfl rfl rfl (by decide) (by decide)
theorem c_X6_heaviestSet {l : Launch} (hl : l.stackTraces = false) {h : PH} {a0 : Nat} {a1 : Nat} {r : (Int32 × PH)} (e : f_X6_heaviestSet h a0 a1 = some r) : CMet l yX6_heaviestSet (z_W yX6_heaviestSet cX6_heaviestSet 5 (some .int)) rmX6_heaviestSet h [.ref a0, .ref a1] (.inr (some (.int r.1))) r.2 :=
  z_met hl Y_X6_heaviestSet (by decide +kernel) (Nat.le_of_ble_eq_true rfl) (fun X hX E T0 M => b_X6_heaviestSet E T0 e M)
abbrev rmX9_bestLandingBySets : Room := { frames := 5, cells := 0, slots := 0, locals := 111 }
noncomputable def f_X9_bestLandingBySets (h : PH) (a0 : Nat) : Option (Int32 × PH) :=
  (rdR h a0 11 3).bind fun x1 =>
  (rdR h a0 11 0).bind fun x3 =>
  (gd h x1 8).bind fun _ =>
  (f_X6_heaviestSet h x1 x3).bind fun p6 =>
  some (p6.1, p6.2)
theorem b_X9_bestLandingBySets {X : PX} (E : z_E X cX9_bestLandingBySets RX9 "bestLandingBySets" 1 rmX9_bestLandingBySets (some .int)) (T0 : z_T0 X) {h : PH} {a0 : Nat} {r : (Int32 × PH)} (e : f_X9_bestLandingBySets h a0 = some r) (M : z_M X rmX9_bestLandingBySets.cells rmX9_bestLandingBySets.slots (.inr (some (.int r.1))) r.2) : WP X 1 0 0 0 [(0, .ref a0)] [] h := by
  unfold f_X9_bestLandingBySets at e
  refine z_aload_n E 0 dX9_bestLandingBySets_0 rfl ?_
  obtain ⟨x1, e2, e⟩ := ob e
  refine z_getR E fl_X9_29 dX9_bestLandingBySets_1 e2 ?_
  refine z_aload_n E 0 dX9_bestLandingBySets_4 rfl ?_
  obtain ⟨x3, e4, e⟩ := ob e
  refine z_getR E fl_X9_12 dX9_bestLandingBySets_5 e4 ?_
  obtain ⟨_, e5, e⟩ := ob e
  obtain ⟨p6, e7, e⟩ := ob e
  refine z_kR2 (st := []) (av := [.ref x1, .ref x3]) E 0 0 (z_rV (st := []) (av := [.ref x3]) E Y_X6_heaviestSet k_X9_178 (ci := 8) rfl (c_X6_heaviestSet (z_El E) e7) dX9_bestLandingBySets_8 e5 rfl rfl (by decide) (by decide) (by decide) (by decide) (Nat.zero_le _)) rfl rfl rfl ?_
  obtain rfl := Option.some.inj e
  exact z_iret E M dX9_bestLandingBySets_11 rfl rfl rfl rfl (by decide) (by decide)
theorem c_X9_bestLandingBySets {l : Launch} (hl : l.stackTraces = false) {h : PH} {a0 : Nat} {r : (Int32 × PH)} (e : f_X9_bestLandingBySets h a0 = some r) : CMet l yX9_bestLandingBySets (z_W yX9_bestLandingBySets cX9_bestLandingBySets 1 (some .int)) rmX9_bestLandingBySets h [.ref a0] (.inr (some (.int r.1))) r.2 :=
  z_met hl Y_X9_bestLandingBySets (by decide +kernel) (Nat.le_of_ble_eq_true rfl) (fun X hX E T0 M => b_X9_bestLandingBySets E T0 e M)
abbrev rmX10_bestLandingBySets : Room := { frames := 4, cells := 0, slots := 0, locals := 94 }
noncomputable def f_X10_bestLandingBySets (h : PH) (a0 : Nat) : Option (Int32 × PH) :=
  (wr h a0 12 8 (.int (0 : Int32))).bind fun h1 =>
  (gd h1 a0 12).bind fun _ =>
  (f_X10_landing h1 a0).bind fun p4 =>
  (gd h1 a0 12).bind fun _ =>
  (f_X10_heavy h1 a0 p4).bind fun p7 =>
  some (p7, h1)
theorem b_X10_bestLandingBySets {X : PX} (E : z_E X cX10_bestLandingBySets RX10 "bestLandingBySets" 1 rmX10_bestLandingBySets (some .int)) (T0 : z_T0 X) {h : PH} {a0 : Nat} {r : (Int32 × PH)} (e : f_X10_bestLandingBySets h a0 = some r) (M : z_M X rmX10_bestLandingBySets.cells rmX10_bestLandingBySets.slots (.inr (some (.int r.1))) r.2) : WP X 1 0 0 0 [(0, .ref a0)] [] h := by
  unfold f_X10_bestLandingBySets at e
  refine z_aload_n E 0 dX10_bestLandingBySets_0 rfl ?_
  refine z_iconst E dX10_bestLandingBySets_1 ic_0 ?_
  obtain ⟨h1, e2, e⟩ := ob e
  refine z_putI E fp_X10_36 (Or.inl rfl) dX10_bestLandingBySets_2 e2 ?_
  refine z_aload_n E 0 dX10_bestLandingBySets_5 rfl ?_
  refine z_aload_n E 0 dX10_bestLandingBySets_6 rfl ?_
  obtain ⟨_, e3, e⟩ := ob e
  obtain ⟨p4, e5, e⟩ := ob e
  refine z_kR2 (st := [.ref a0]) (av := [.ref a0]) E 0 0 (z_rV (st := [.ref a0]) (av := []) E Y_X10_landing k_X10_166 (ci := 12) rfl (c_X10_landing (z_El E) e5) dX10_bestLandingBySets_7 e3 rfl rfl (by decide) (by decide) (by decide) (by decide) (Nat.le_of_ble_eq_true rfl)) rfl rfl rfl ?_
  obtain ⟨_, e6, e⟩ := ob e
  obtain ⟨p7, e8, e⟩ := ob e
  refine z_kR2 (st := []) (av := [.ref a0, .int p4]) E 0 0 (z_rV (st := []) (av := [.int p4]) E Y_X10_heavy k_X10_160 (ci := 12) rfl (c_X10_heavy (z_El E) e8) dX10_bestLandingBySets_10 e6 rfl rfl (by decide) (by decide) (by decide) (by decide) (Nat.zero_le _)) rfl rfl rfl ?_
  obtain rfl := Option.some.inj e
  exact z_iret E M dX10_bestLandingBySets_13 rfl rfl rfl rfl (by decide) (by decide)
theorem c_X10_bestLandingBySets {l : Launch} (hl : l.stackTraces = false) {h : PH} {a0 : Nat} {r : (Int32 × PH)} (e : f_X10_bestLandingBySets h a0 = some r) : CMet l yX10_bestLandingBySets (z_W yX10_bestLandingBySets cX10_bestLandingBySets 1 (some .int)) rmX10_bestLandingBySets h [.ref a0] (.inr (some (.int r.1))) r.2 :=
  z_met hl Y_X10_bestLandingBySets (by decide +kernel) (Nat.le_of_ble_eq_true rfl) (fun X hX E T0 M => b_X10_bestLandingBySets E T0 e M)
abbrev rmX9_wouldLand : Room := { frames := 7, cells := 1, slots := 6, locals := 113 }
noncomputable def f_X9_wouldLand (h : PH) (a0 : Nat) (a1 : Int32) : Option ((String ⊕ Bool) × PH) :=
  (gd h a0 11).bind fun _ =>
  (f_X9_needNote h a0 a1).bind fun p2 =>
  Sum.elim
    (fun E4 =>
    some ((Sum.inl E4), h))
    (fun y6 =>
    (rdR h a0 11 3).bind fun x7 =>
    (rdR h a0 11 0).bind fun x9 =>
    (gd h x7 8).bind fun _ =>
    (f_X6_choose h x7 x9).bind fun p12 =>
    some ((Sum.inr (f_X9_has p12.1 a1)), p12.2)) p2
theorem b_X9_wouldLand {X : PX} (E : z_E X cX9_wouldLand RX9 "wouldLand" 2 rmX9_wouldLand (some .boolean)) (T0 : z_T0 X) {h : PH} {a0 : Nat} {a1 : Int32} {r : ((String ⊕ Bool) × PH)} (e : f_X9_wouldLand h a0 a1 = some r) (M : z_M X rmX9_wouldLand.cells rmX9_wouldLand.slots (zoB r.1) r.2) : WP X 2 0 0 0 [(0, .ref a0), (1, .int a1)] [] h := by
  unfold f_X9_wouldLand at e
  refine z_aload_n E 0 dX9_wouldLand_0 rfl ?_
  refine z_iload_n E 1 dX9_wouldLand_1 rfl ?_
  obtain ⟨_, e1, e⟩ := ob e
  obtain ⟨p2, e3, e⟩ := ob e
  rcases os e with ⟨E4, c5, e⟩ | ⟨y6, c5, e⟩
  · obtain rfl := Option.some.inj e
    refine z_kX2 (st := []) (av := [.ref a0, .int a1]) E 1 6 (z_rV (st := []) (av := [.int a1]) E Y_X9_needNote k_X9_69 (ci := 11) rfl (zc_o (c_X9_needNote (z_El E) e3) (by rw [c5]; rfl)) dX9_wouldLand_2 e1 rfl rfl (by decide) (by decide) (by decide) (by decide) (Nat.zero_le _)) rfl rfl rfl ?_
    exact z_outX E T0 M rfl rfl (by decide) (by decide)
  · refine z_kV2 (st := []) (av := [.ref a0, .int a1]) E 1 6 (z_rV (st := []) (av := [.int a1]) E Y_X9_needNote k_X9_69 (ci := 11) rfl (zc_o (c_X9_needNote (z_El E) e3) (by rw [c5]; rfl)) dX9_wouldLand_2 e1 rfl rfl (by decide) (by decide) (by decide) (by decide) (Nat.zero_le _)) rfl rfl rfl ?_
    refine z_aload_n E 0 dX9_wouldLand_5 rfl ?_
    obtain ⟨x7, e8, e⟩ := ob e
    refine z_getR E fl_X9_29 dX9_wouldLand_6 e8 ?_
    refine z_aload_n E 0 dX9_wouldLand_9 rfl ?_
    obtain ⟨x9, e10, e⟩ := ob e
    refine z_getR E fl_X9_12 dX9_wouldLand_10 e10 ?_
    obtain ⟨_, e11, e⟩ := ob e
    obtain ⟨p12, e13, e⟩ := ob e
    refine z_kR2 (st := []) (av := [.ref x7, .ref x9]) E 1 6 (z_rV (st := []) (av := [.ref x9]) E Y_X6_choose k_X9_172 (ci := 8) rfl (c_X6_choose (z_El E) e13) dX9_wouldLand_13 e11 rfl rfl (by decide) (by decide) (by decide) (by decide) (Nat.zero_le _)) rfl rfl rfl ?_
    refine z_iload_n E 1 dX9_wouldLand_16 rfl ?_
    refine z_kR2 (st := []) (av := [.int p12.1, .int a1]) E 1 6 (z_rS (st := []) (av := [.int p12.1, .int a1]) E Y_X9_has k_X9_91 (c_X9_has (l := z_l X) (h := p12.2) (z_El E) p12.1 a1) dX9_wouldLand_17 rfl rfl (by decide) (by decide) (by decide) (by decide) (Nat.zero_le _)) rfl rfl rfl ?_
    obtain rfl := Option.some.inj e
    exact z_iret E M dX9_wouldLand_20 rfl (zb_nar _) rfl rfl (by decide) (by decide)
theorem c_X9_wouldLand {l : Launch} (hl : l.stackTraces = false) {h : PH} {a0 : Nat} {a1 : Int32} {r : ((String ⊕ Bool) × PH)} (e : f_X9_wouldLand h a0 a1 = some r) : CMet l yX9_wouldLand (z_W yX9_wouldLand cX9_wouldLand 2 (some .boolean)) rmX9_wouldLand h [.ref a0, .int a1] (zoB r.1) r.2 :=
  z_met hl Y_X9_wouldLand (by decide +kernel) (Nat.le_of_ble_eq_true rfl) (fun X hX E T0 M => b_X9_wouldLand E T0 e M)
abbrev rmL_wouldLand : Room := { frames := 8, cells := 1, slots := 6, locals := 134 }
noncomputable def f_L_wouldLand (h : PH) (a0 : Nat) (a1 : Int32) (a2 : Nat) : Option (Int32 × PH) :=
  (gd h a0 11).bind fun _ =>
  (f_X9_wouldLand h a0 a1).bind fun p2 =>
  Sum.elim
    (fun E4 =>
    if E4 = "java/util/NoSuchElementException" then
      some ((1 : Int32), p2.2)
    else none)
    (fun y6 =>
    if y6 = false then
      (asL p2.2 a2 (0 : Int32) (0 : Int64)).bind fun h9 =>
      some ((0 : Int32), h9)
    else
      (asL p2.2 a2 (0 : Int32) (1 : Int64)).bind fun h11 =>
      some ((0 : Int32), h11)) p2.1
theorem b_L_wouldLand {X : PX} (E : z_E X cL_wouldLand RL "wouldLand" 4 rmL_wouldLand (some .int)) (TT : z_TT X [(0, 16, 19, 20)]) {h : PH} {a0 : Nat} {a1 : Int32} {a2 : Nat} {r : (Int32 × PH)} (e : f_L_wouldLand h a0 a1 a2 = some r) (M : z_M X rmL_wouldLand.cells rmL_wouldLand.slots (.inr (some (.int r.1))) r.2) : WP X 4 0 0 0 [(0, .ref a0), (1, .int a1), (2, .ref a2)] [] h := by
  unfold f_L_wouldLand at e
  refine z_aload_n E 2 dL_wouldLand_0 rfl ?_
  refine z_iconst E dL_wouldLand_1 ic_0 ?_
  refine z_aload_n E 0 dL_wouldLand_2 rfl ?_
  refine z_iload_n E 1 dL_wouldLand_3 rfl ?_
  obtain ⟨_, e1, e⟩ := ob e
  obtain ⟨p2, e3, e⟩ := ob e
  rcases os e with ⟨E4, c5, e⟩ | ⟨y6, c5, e⟩
  · rcases oi e with ⟨c7, e⟩ | ⟨c7, e⟩
    · subst c7
      refine z_kX2 (st := [.int (0 : Int32), .ref a2]) (av := [.ref a0, .int a1]) E 1 6 (z_rV (st := [.int (0 : Int32), .ref a2]) (av := [.int a1]) E Y_X9_wouldLand k_L_98 (ci := 11) rfl (zc_o (c_X9_wouldLand (z_El E) e3) (by rw [c5]; rfl)) dL_wouldLand_4 e1 rfl rfl (by decide) (by decide) (by decide) (by decide) (Nat.le_of_ble_eq_true rfl)) rfl rfl rfl ?_
      refine z_catch (lv2 := [(0, .ref a0), (1, .int a1), (2, .ref a2)]) E TT 0 (q := (0, 16, 19, 20)) rfl rfl (by decide) cl_L_20 kb_NoSuchElementException (fun z hz => nomatch hz) (Or.inl ⟨_, dL_wouldLand_19, rfl, rfl⟩) (by decide) rfl ?_
      refine z_iconst E dL_wouldLand_20 ic_1 ?_
      obtain rfl := Option.some.inj e
      exact z_iret E M dL_wouldLand_21 rfl rfl rfl rfl (by decide) (by decide)
    cases e
  · refine z_kR2 (st := [.int (0 : Int32), .ref a2]) (av := [.ref a0, .int a1]) E 1 6 (z_rV (st := [.int (0 : Int32), .ref a2]) (av := [.int a1]) E Y_X9_wouldLand k_L_98 (ci := 11) rfl (zc_o (c_X9_wouldLand (z_El E) e3) (by rw [c5]; rfl)) dL_wouldLand_4 e1 rfl rfl (by decide) (by decide) (by decide) (by decide) (Nat.le_of_ble_eq_true rfl)) rfl rfl rfl ?_
    rcases oi e with ⟨c8, e⟩ | ⟨c8, e⟩
    · refine z_if_eqT (tgt := 14) E dL_wouldLand_7 rfl (zb_f c8) ?_
      refine z_lconst (v := (0 : Int64)) E dL_wouldLand_14 rfl ?_
      obtain ⟨h9, e10, e⟩ := ob e
      refine z_last E dL_wouldLand_15 e10 ?_
      refine z_goto (tgt := 22) E dL_wouldLand_16 rfl ?_
      refine z_iconst E dL_wouldLand_22 ic_0 ?_
      obtain rfl := Option.some.inj e
      exact z_iret E M dL_wouldLand_23 rfl rfl rfl rfl (by decide) (by decide)
    · refine z_if_eqF (tgt := 14) E dL_wouldLand_7 rfl (zb_nf c8) ?_
      refine z_lconst (v := (1 : Int64)) E dL_wouldLand_10 rfl ?_
      refine z_goto (tgt := 15) E dL_wouldLand_11 rfl ?_
      obtain ⟨h11, e12, e⟩ := ob e
      refine z_last E dL_wouldLand_15 e12 ?_
      refine z_goto (tgt := 22) E dL_wouldLand_16 rfl ?_
      refine z_iconst E dL_wouldLand_22 ic_0 ?_
      obtain rfl := Option.some.inj e
      exact z_iret E M dL_wouldLand_23 rfl rfl rfl rfl (by decide) (by decide)
theorem c_L_wouldLand {l : Launch} (hl : l.stackTraces = false) {h : PH} {a0 : Nat} {a1 : Int32} {a2 : Nat} {r : (Int32 × PH)} (e : f_L_wouldLand h a0 a1 a2 = some r) : CMet l yL_wouldLand (z_WH yL_wouldLand cL_wouldLand 4 (some .int) [(0, 16, 19, 20)]) rmL_wouldLand h [.ref a0, .int a1, .ref a2] (.inr (some (.int r.1))) r.2 :=
  z_metH hl Y_L_wouldLand (by decide +kernel) (Nat.le_of_ble_eq_true rfl) (fun X hX E T0 M => b_L_wouldLand E T0 e M)
abbrev rmX10_wouldLand : Room := { frames := 4, cells := 0, slots := 0, locals := 94 }
noncomputable def f_X10_wouldLand (h : PH) (a0 : Nat) (a1 : Int32) : Option (Bool × PH) :=
  (gd h a0 12).bind fun _ =>
  (f_X10_isNone h a0 a1).bind fun p2 =>
  if p2.1 = true then
    some (false, p2.2)
  else
    (gd p2.2 a0 12).bind fun _ =>
    (f_X10_landing p2.2 a0).bind fun p6 =>
    if ¬ ((zshr p6 a1) &&& (1 : Int32)) = (1 : Int32) then
      some (false, p2.2)
    else
      some (true, p2.2)
theorem b_X10_wouldLand {X : PX} (E : z_E X cX10_wouldLand RX10 "wouldLand" 2 rmX10_wouldLand (some .boolean)) (T0 : z_T0 X) {h : PH} {a0 : Nat} {a1 : Int32} {r : (Bool × PH)} (e : f_X10_wouldLand h a0 a1 = some r) (M : z_M X rmX10_wouldLand.cells rmX10_wouldLand.slots (.inr (some (.int (zb r.1)))) r.2) : WP X 2 0 0 0 [(0, .ref a0), (1, .int a1)] [] h := by
  unfold f_X10_wouldLand at e
  refine z_aload_n E 0 dX10_wouldLand_0 rfl ?_
  refine z_iload_n E 1 dX10_wouldLand_1 rfl ?_
  obtain ⟨_, e1, e⟩ := ob e
  obtain ⟨p2, e3, e⟩ := ob e
  refine z_kR2 (st := []) (av := [.ref a0, .int a1]) E 0 0 (z_rV (st := []) (av := [.int a1]) E Y_X10_isNone k_X10_107 (ci := 12) rfl (c_X10_isNone (z_El E) e3) dX10_wouldLand_2 e1 rfl rfl (by decide) (by decide) (by decide) (by decide) (Nat.zero_le _)) rfl rfl rfl ?_
  rcases oi e with ⟨c4, e⟩ | ⟨c4, e⟩
  · refine z_if_neT (tgt := 24) E dX10_wouldLand_5 rfl (zb_t c4) ?_
    refine z_iconst E dX10_wouldLand_24 ic_0 ?_
    obtain rfl := Option.some.inj e
    exact z_iret E M dX10_wouldLand_25 rfl rfl rfl rfl (by decide) (by decide)
  · refine z_if_neF (tgt := 24) E dX10_wouldLand_5 rfl (zb_nt c4) ?_
    refine z_aload_n E 0 dX10_wouldLand_8 rfl ?_
    obtain ⟨_, e5, e⟩ := ob e
    obtain ⟨p6, e7, e⟩ := ob e
    refine z_kR2 (st := []) (av := [.ref a0]) E 0 0 (z_rV (st := []) (av := []) E Y_X10_landing k_X10_166 (ci := 12) rfl (c_X10_landing (z_El E) e7) dX10_wouldLand_9 e5 rfl rfl (by decide) (by decide) (by decide) (by decide) (Nat.zero_le _)) rfl rfl rfl ?_
    refine z_iload_n E 1 dX10_wouldLand_12 rfl ?_
    refine z_ishr E dX10_wouldLand_13 ?_
    refine z_iconst E dX10_wouldLand_14 ic_1 ?_
    refine z_iand E dX10_wouldLand_15 ?_
    refine z_iconst E dX10_wouldLand_16 ic_1 ?_
    rcases oi e with ⟨c8, e⟩ | ⟨c8, e⟩
    · refine z_icmp_neT (tgt := 24) E dX10_wouldLand_17 rfl c8 ?_
      refine z_iconst E dX10_wouldLand_24 ic_0 ?_
      obtain rfl := Option.some.inj e
      exact z_iret E M dX10_wouldLand_25 rfl rfl rfl rfl (by decide) (by decide)
    · refine z_icmp_neF (tgt := 24) E dX10_wouldLand_17 rfl (Classical.not_not.mp c8) ?_
      refine z_iconst E dX10_wouldLand_20 ic_1 ?_
      refine z_goto (tgt := 25) E dX10_wouldLand_21 rfl ?_
      obtain rfl := Option.some.inj e
      exact z_iret E M dX10_wouldLand_25 rfl rfl rfl rfl (by decide) (by decide)
theorem c_X10_wouldLand {l : Launch} (hl : l.stackTraces = false) {h : PH} {a0 : Nat} {a1 : Int32} {r : (Bool × PH)} (e : f_X10_wouldLand h a0 a1 = some r) : CMet l yX10_wouldLand (z_W yX10_wouldLand cX10_wouldLand 2 (some .boolean)) rmX10_wouldLand h [.ref a0, .int a1] (.inr (some (.int (zb r.1)))) r.2 :=
  z_met hl Y_X10_wouldLand (by decide +kernel) (Nat.le_of_ble_eq_true rfl) (fun X hX E T0 M => b_X10_wouldLand E T0 e M)
abbrev rmX9_buyLicence : Room := { frames := 8, cells := 12, slots := 117, locals := 146 }
noncomputable def f_X9_buyLicence (h : PH) (a0 : Nat) : Option ((String ⊕ Int32) × PH) :=
  (gd h a0 11).bind fun _ =>
  (f_X9_change h a0 (10 : Int32) (0 : Int32) (0 : Int32) (0 : Int32)).bind fun p2 =>
  Sum.elim
    (fun E4 =>
    some ((Sum.inl E4), p2.2))
    (fun y6 =>
    some ((Sum.inr y6), p2.2)) p2.1
theorem b_X9_buyLicence {X : PX} (E : z_E X cX9_buyLicence RX9 "buyLicence" 1 rmX9_buyLicence (some .int)) (T0 : z_T0 X) {h : PH} {a0 : Nat} {r : ((String ⊕ Int32) × PH)} (e : f_X9_buyLicence h a0 = some r) (M : z_M X rmX9_buyLicence.cells rmX9_buyLicence.slots (zoI r.1) r.2) : WP X 1 0 0 0 [(0, .ref a0)] [] h := by
  unfold f_X9_buyLicence at e
  refine z_aload_n E 0 dX9_buyLicence_0 rfl ?_
  refine z_bipush E dX9_buyLicence_1 bp_10 ?_
  refine z_iconst E dX9_buyLicence_3 ic_0 ?_
  refine z_iconst E dX9_buyLicence_4 ic_0 ?_
  refine z_iconst E dX9_buyLicence_5 ic_0 ?_
  obtain ⟨_, e1, e⟩ := ob e
  obtain ⟨p2, e3, e⟩ := ob e
  rcases os e with ⟨E4, c5, e⟩ | ⟨y6, c5, e⟩
  · obtain rfl := Option.some.inj e
    refine z_kX2 (st := []) (av := [.ref a0, .int (10 : Int32), .int (0 : Int32), .int (0 : Int32), .int (0 : Int32)]) E 12 117 (z_rV (st := []) (av := [.int (10 : Int32), .int (0 : Int32), .int (0 : Int32), .int (0 : Int32)]) E Y_X9_change k_X9_61 (ci := 11) rfl (zc_o (c_X9_change (z_El E) e3) (by rw [c5]; rfl)) dX9_buyLicence_6 e1 rfl rfl (by decide) (by decide) (by decide) (by decide) (Nat.zero_le _)) rfl rfl rfl ?_
    exact z_outX E T0 M rfl rfl (by decide) (by decide)
  · refine z_kR2 (st := []) (av := [.ref a0, .int (10 : Int32), .int (0 : Int32), .int (0 : Int32), .int (0 : Int32)]) E 12 117 (z_rV (st := []) (av := [.int (10 : Int32), .int (0 : Int32), .int (0 : Int32), .int (0 : Int32)]) E Y_X9_change k_X9_61 (ci := 11) rfl (zc_o (c_X9_change (z_El E) e3) (by rw [c5]; rfl)) dX9_buyLicence_6 e1 rfl rfl (by decide) (by decide) (by decide) (by decide) (Nat.zero_le _)) rfl rfl rfl ?_
    obtain rfl := Option.some.inj e
    exact z_iret E M dX9_buyLicence_9 rfl rfl rfl rfl (by decide) (by decide)
theorem c_X9_buyLicence {l : Launch} (hl : l.stackTraces = false) {h : PH} {a0 : Nat} {r : ((String ⊕ Int32) × PH)} (e : f_X9_buyLicence h a0 = some r) : CMet l yX9_buyLicence (z_W yX9_buyLicence cX9_buyLicence 1 (some .int)) rmX9_buyLicence h [.ref a0] (zoI r.1) r.2 :=
  z_met hl Y_X9_buyLicence (by decide +kernel) (Nat.le_of_ble_eq_true rfl) (fun X hX E T0 M => b_X9_buyLicence E T0 e M)
abbrev rmL_buyLicence : Room := { frames := 9, cells := 12, slots := 117, locals := 166 }
noncomputable def f_L_buyLicence (h : PH) (a0 : Nat) (a1 : Nat) : Option (Int32 × PH) :=
  (gd h a0 11).bind fun _ =>
  (f_X9_buyLicence h a0).bind fun p2 =>
  Sum.elim
    (fun E4 =>
    if E4 = "java/lang/UnsupportedOperationException" then
      some ((1 : Int32), p2.2)
    else none)
    (fun y6 =>
    (asL p2.2 a1 (0 : Int32) y6.toInt64).bind fun h8 =>
    some ((0 : Int32), h8)) p2.1
theorem b_L_buyLicence {X : PX} (E : z_E X cL_buyLicence RL "buyLicence" 3 rmL_buyLicence (some .int)) (TT : z_TT X [(0, 8, 11, 15)]) {h : PH} {a0 : Nat} {a1 : Nat} {r : (Int32 × PH)} (e : f_L_buyLicence h a0 a1 = some r) (M : z_M X rmL_buyLicence.cells rmL_buyLicence.slots (.inr (some (.int r.1))) r.2) : WP X 3 0 0 0 [(0, .ref a0), (1, .ref a1)] [] h := by
  unfold f_L_buyLicence at e
  refine z_aload_n E 1 dL_buyLicence_0 rfl ?_
  refine z_iconst E dL_buyLicence_1 ic_0 ?_
  refine z_aload_n E 0 dL_buyLicence_2 rfl ?_
  obtain ⟨_, e1, e⟩ := ob e
  obtain ⟨p2, e3, e⟩ := ob e
  rcases os e with ⟨E4, c5, e⟩ | ⟨y6, c5, e⟩
  · rcases oi e with ⟨c7, e⟩ | ⟨c7, e⟩
    · subst c7
      refine z_kX2 (st := [.int (0 : Int32), .ref a1]) (av := [.ref a0]) E 12 117 (z_rV (st := [.int (0 : Int32), .ref a1]) (av := []) E Y_X9_buyLicence k_L_102 (ci := 11) rfl (zc_o (c_X9_buyLicence (z_El E) e3) (by rw [c5]; rfl)) dL_buyLicence_3 e1 rfl rfl (by decide) (by decide) (by decide) (by decide) (Nat.le_of_ble_eq_true rfl)) rfl rfl rfl ?_
      refine z_catch (lv2 := [(0, .ref a0), (1, .ref a1)]) E TT 0 (q := (0, 8, 11, 15)) rfl rfl (by decide) cl_L_15 kb_UnsupportedOperationException (fun z hz => nomatch hz) (Or.inl ⟨_, dL_buyLicence_11, rfl, rfl⟩) (by decide) rfl ?_
      refine z_iconst E dL_buyLicence_12 ic_1 ?_
      obtain rfl := Option.some.inj e
      exact z_iret E M dL_buyLicence_13 rfl rfl rfl rfl (by decide) (by decide)
    cases e
  · refine z_kR2 (st := [.int (0 : Int32), .ref a1]) (av := [.ref a0]) E 12 117 (z_rV (st := [.int (0 : Int32), .ref a1]) (av := []) E Y_X9_buyLicence k_L_102 (ci := 11) rfl (zc_o (c_X9_buyLicence (z_El E) e3) (by rw [c5]; rfl)) dL_buyLicence_3 e1 rfl rfl (by decide) (by decide) (by decide) (by decide) (Nat.le_of_ble_eq_true rfl)) rfl rfl rfl ?_
    refine z_i2l (v := y6.toInt64) E dL_buyLicence_6 rfl ?_
    obtain ⟨h8, e9, e⟩ := ob e
    refine z_last E dL_buyLicence_7 e9 ?_
    refine z_goto (tgt := 14) E dL_buyLicence_8 rfl ?_
    refine z_iconst E dL_buyLicence_14 ic_0 ?_
    obtain rfl := Option.some.inj e
    exact z_iret E M dL_buyLicence_15 rfl rfl rfl rfl (by decide) (by decide)
theorem c_L_buyLicence {l : Launch} (hl : l.stackTraces = false) {h : PH} {a0 : Nat} {a1 : Nat} {r : (Int32 × PH)} (e : f_L_buyLicence h a0 a1 = some r) : CMet l yL_buyLicence (z_WH yL_buyLicence cL_buyLicence 3 (some .int) [(0, 8, 11, 15)]) rmL_buyLicence h [.ref a0, .ref a1] (.inr (some (.int r.1))) r.2 :=
  z_metH hl Y_L_buyLicence (by decide +kernel) (Nat.le_of_ble_eq_true rfl) (fun X hX E T0 M => b_L_buyLicence E T0 e M)
abbrev rmX10_fee : Room := { frames := 0, cells := 0, slots := 0, locals := 0 }
noncomputable def f_X10_fee (a0 : Int32) : Int32 :=
  if ¬ a0 = 0 then
    if ¬ a0 = (1 : Int32) then
      if ¬ a0 = (2 : Int32) then
        (10 : Int32)
      else
        (40 : Int32)
    else
      (30 : Int32)
  else
    (20 : Int32)
theorem b_X10_fee {X : PX} (E : z_E X cX10_fee RX10 "fee" 1 rmX10_fee (some .int)) (T0 : z_T0 X) {h : PH} {a0 : Int32} {r : Int32} (e : f_X10_fee a0 = r) (M : z_M X rmX10_fee.cells rmX10_fee.slots (.inr (some (.int r))) h) : WP X 1 0 0 0 [(0, .int a0)] [] h := by
  unfold f_X10_fee at e
  refine z_iload_n E 0 dX10_fee_0 rfl ?_
  rcases oi e with ⟨c1, e⟩ | ⟨c1, e⟩
  · refine z_if_neT (tgt := 9) E dX10_fee_1 rfl c1 ?_
    refine z_iload_n E 0 dX10_fee_9 rfl ?_
    refine z_iconst E dX10_fee_10 ic_1 ?_
    rcases oi e with ⟨c2, e⟩ | ⟨c2, e⟩
    · refine z_icmp_neT (tgt := 19) E dX10_fee_11 rfl c2 ?_
      refine z_iload_n E 0 dX10_fee_19 rfl ?_
      refine z_iconst E dX10_fee_20 ic_2 ?_
      rcases oi e with ⟨c3, e⟩ | ⟨c3, e⟩
      · refine z_icmp_neT (tgt := 29) E dX10_fee_21 rfl c3 ?_
        refine z_bipush E dX10_fee_29 bp_10 ?_
        subst e
        exact z_iret E M dX10_fee_31 rfl rfl rfl rfl (by decide) (by decide)
      · refine z_icmp_neF (tgt := 29) E dX10_fee_21 rfl (Classical.not_not.mp c3) ?_
        refine z_bipush E dX10_fee_24 bp_40 ?_
        refine z_goto (tgt := 31) E dX10_fee_26 rfl ?_
        subst e
        exact z_iret E M dX10_fee_31 rfl rfl rfl rfl (by decide) (by decide)
    · refine z_icmp_neF (tgt := 19) E dX10_fee_11 rfl (Classical.not_not.mp c2) ?_
      refine z_bipush E dX10_fee_14 bp_30 ?_
      refine z_goto (tgt := 31) E dX10_fee_16 rfl ?_
      subst e
      exact z_iret E M dX10_fee_31 rfl rfl rfl rfl (by decide) (by decide)
  · refine z_if_neF (tgt := 9) E dX10_fee_1 rfl (Classical.not_not.mp c1) ?_
    refine z_bipush E dX10_fee_4 bp_20 ?_
    refine z_goto (tgt := 31) E dX10_fee_6 rfl ?_
    subst e
    exact z_iret E M dX10_fee_31 rfl rfl rfl rfl (by decide) (by decide)
theorem c_X10_fee {l : Launch} (hl : l.stackTraces = false) {h : PH} (a0 : Int32) : CMet l yX10_fee (z_W yX10_fee cX10_fee 1 (some .int)) rmX10_fee h [.int a0] (.inr (some (.int (f_X10_fee a0)))) h :=
  z_met hl Y_X10_fee (by decide +kernel) (Nat.le_of_ble_eq_true rfl) (fun X hX E T0 M => b_X10_fee E T0 rfl M)
abbrev rmX10_buyLicence : Room := { frames := 2, cells := 0, slots := 0, locals := 46 }
noncomputable def f_X10_buyLicence (h : PH) (a0 : Nat) : Option (Int32 × PH) :=
  (gd h a0 12).bind fun _ =>
  (f_X10_seasonNow h a0).bind fun p2 =>
  (rdR h a0 12 0).bind fun x4 =>
  (alI .int h x4 (3 : Int32)).bind fun x6 =>
  if ¬ x6 = (1 : Int32) then
    (rdR h a0 12 0).bind fun x9 =>
    (alI .int h x9 (4 : Int32)).bind fun x11 =>
    if (f_X10_fee p2) ≤ x11 then
      (rdR h a0 12 0).bind fun x14 =>
      (gd h a0 12).bind fun _ =>
      (f_X10_keeps h a0 x14).bind fun p17 =>
      (rdR p17 a0 12 0).bind fun x19 =>
      (asI .int p17 x19 (3 : Int32) (1 : Int32)).bind fun h21 =>
      (rdR h21 a0 12 0).bind fun x23 =>
      (alI .int h21 x23 (4 : Int32)).bind fun x25 =>
      (asI .int h21 x23 (4 : Int32) (x25 - (f_X10_fee p2))).bind fun h27 =>
      (rdR h27 a0 12 0).bind fun x29 =>
      (alI .int h27 x29 (4 : Int32)).bind fun x31 =>
      some (x31, h27)
    else
      (rdR h a0 12 0).bind fun x33 =>
      (alI .int h x33 (4 : Int32)).bind fun x35 =>
      (gd h a0 12).bind fun _ =>
      (f_X10_denies h a0 (1 : Int32) (6 : Int32) ((f_X10_fee p2) - x35)).bind fun p38 =>
      some (p38.1, p38.2)
  else
    (gd h a0 12).bind fun _ =>
    (f_X10_seasonNow h a0).bind fun p41 =>
    (gd h a0 12).bind fun _ =>
    (f_X10_denies h a0 (1 : Int32) (8 : Int32) p41).bind fun p44 =>
    some (p44.1, p44.2)
theorem b_X10_buyLicence {X : PX} (E : z_E X cX10_buyLicence RX10 "buyLicence" 2 rmX10_buyLicence (some .int)) (T0 : z_T0 X) {h : PH} {a0 : Nat} {r : (Int32 × PH)} (e : f_X10_buyLicence h a0 = some r) (M : z_M X rmX10_buyLicence.cells rmX10_buyLicence.slots (.inr (some (.int r.1))) r.2) : WP X 2 0 0 0 [(0, .ref a0)] [] h := by
  unfold f_X10_buyLicence at e
  refine z_aload_n E 0 dX10_buyLicence_0 rfl ?_
  obtain ⟨_, e1, e⟩ := ob e
  obtain ⟨p2, e3, e⟩ := ob e
  refine z_kR2 (st := []) (av := [.ref a0]) E 0 0 (z_rV (st := []) (av := []) E Y_X10_seasonNow k_X10_136 (ci := 12) rfl (c_X10_seasonNow (z_El E) e3) dX10_buyLicence_1 e1 rfl rfl (by decide) (by decide) (by decide) (by decide) (Nat.zero_le _)) rfl rfl rfl ?_
  refine z_kR2 (st := []) (av := [.int p2]) E 0 0 (z_rS (st := []) (av := [.int p2]) E Y_X10_fee k_X10_169 (c_X10_fee (l := z_l X) (h := h) (z_El E) p2) dX10_buyLicence_4 rfl rfl (by decide) (by decide) (by decide) (by decide) (Nat.zero_le _)) rfl rfl rfl ?_
  refine z_istore_n (lv2 := [(1, .int (f_X10_fee p2)), (0, .ref a0)]) E dX10_buyLicence_7 (by decide) rfl ?_
  refine z_aload_n E 1 dX10_buyLicence_8 rfl ?_
  obtain ⟨x4, e5, e⟩ := ob e
  refine z_getR E fl_X10_7 dX10_buyLicence_9 e5 ?_
  refine z_iconst E dX10_buyLicence_12 ic_3 ?_
  obtain ⟨x6, e7, e⟩ := ob e
  refine z_iald E dX10_buyLicence_13 e7 ?_
  refine z_iconst E dX10_buyLicence_14 ic_1 ?_
  rcases oi e with ⟨c8, e⟩ | ⟨c8, e⟩
  · refine z_icmp_neT (tgt := 30) E dX10_buyLicence_15 rfl c8 ?_
    refine z_aload_n E 1 dX10_buyLicence_30 rfl ?_
    obtain ⟨x9, e10, e⟩ := ob e
    refine z_getR E fl_X10_7 dX10_buyLicence_31 e10 ?_
    refine z_iconst E dX10_buyLicence_34 ic_4 ?_
    obtain ⟨x11, e12, e⟩ := ob e
    refine z_iald E dX10_buyLicence_35 e12 ?_
    refine z_iload_n E 0 dX10_buyLicence_36 rfl ?_
    rcases oi e with ⟨c13, e⟩ | ⟨c13, e⟩
    · refine z_icmp_geT (tgt := 56) E dX10_buyLicence_37 rfl c13 ?_
      refine z_aload_n E 1 dX10_buyLicence_56 rfl ?_
      refine z_aload_n E 1 dX10_buyLicence_57 rfl ?_
      obtain ⟨x14, e15, e⟩ := ob e
      refine z_getR E fl_X10_7 dX10_buyLicence_58 e15 ?_
      obtain ⟨_, e16, e⟩ := ob e
      obtain ⟨p17, e18, e⟩ := ob e
      refine z_kV2 (st := []) (av := [.ref a0, .ref x14]) E 0 0 (z_rV (st := []) (av := [.ref x14]) E Y_X10_keeps k_X10_84 (ci := 12) rfl (c_X10_keeps (z_El E) e18) dX10_buyLicence_61 e16 rfl rfl (by decide) (by decide) (by decide) (by decide) (Nat.zero_le _)) rfl rfl rfl ?_
      refine z_aload_n E 1 dX10_buyLicence_64 rfl ?_
      obtain ⟨x19, e20, e⟩ := ob e
      refine z_getR E fl_X10_7 dX10_buyLicence_65 e20 ?_
      refine z_iconst E dX10_buyLicence_68 ic_3 ?_
      refine z_iconst E dX10_buyLicence_69 ic_1 ?_
      obtain ⟨h21, e22, e⟩ := ob e
      refine z_iast E dX10_buyLicence_70 e22 ?_
      refine z_aload_n E 1 dX10_buyLicence_71 rfl ?_
      obtain ⟨x23, e24, e⟩ := ob e
      refine z_getR E fl_X10_7 dX10_buyLicence_72 e24 ?_
      refine z_iconst E dX10_buyLicence_75 ic_4 ?_
      refine z_dup2 E dX10_buyLicence_76 rfl rfl ?_
      obtain ⟨x25, e26, e⟩ := ob e
      refine z_iald E dX10_buyLicence_77 e26 ?_
      refine z_iload_n E 0 dX10_buyLicence_78 rfl ?_
      refine z_isub E dX10_buyLicence_79 ?_
      obtain ⟨h27, e28, e⟩ := ob e
      refine z_iast E dX10_buyLicence_80 e28 ?_
      refine z_aload_n E 1 dX10_buyLicence_81 rfl ?_
      obtain ⟨x29, e30, e⟩ := ob e
      refine z_getR E fl_X10_7 dX10_buyLicence_82 e30 ?_
      refine z_iconst E dX10_buyLicence_85 ic_4 ?_
      obtain ⟨x31, e32, e⟩ := ob e
      refine z_iald E dX10_buyLicence_86 e32 ?_
      obtain rfl := Option.some.inj e
      exact z_iret E M dX10_buyLicence_87 rfl rfl rfl rfl (by decide) (by decide)
    · refine z_icmp_geF (tgt := 56) E dX10_buyLicence_37 rfl c13 ?_
      refine z_aload_n E 1 dX10_buyLicence_40 rfl ?_
      refine z_iconst E dX10_buyLicence_41 ic_1 ?_
      refine z_bipush E dX10_buyLicence_42 bp_6 ?_
      refine z_iload_n E 0 dX10_buyLicence_44 rfl ?_
      refine z_aload_n E 1 dX10_buyLicence_45 rfl ?_
      obtain ⟨x33, e34, e⟩ := ob e
      refine z_getR E fl_X10_7 dX10_buyLicence_46 e34 ?_
      refine z_iconst E dX10_buyLicence_49 ic_4 ?_
      obtain ⟨x35, e36, e⟩ := ob e
      refine z_iald E dX10_buyLicence_50 e36 ?_
      refine z_isub E dX10_buyLicence_51 ?_
      obtain ⟨_, e37, e⟩ := ob e
      obtain ⟨p38, e39, e⟩ := ob e
      refine z_kR2 (st := []) (av := [.ref a0, .int (1 : Int32), .int (6 : Int32), .int ((f_X10_fee p2) - x35)]) E 0 0 (z_rV (st := []) (av := [.int (1 : Int32), .int (6 : Int32), .int ((f_X10_fee p2) - x35)]) E Y_X10_denies k_X10_80 (ci := 12) rfl (c_X10_denies (z_El E) e39) dX10_buyLicence_52 e37 rfl rfl (by decide) (by decide) (by decide) (by decide) (Nat.zero_le _)) rfl rfl rfl ?_
      obtain rfl := Option.some.inj e
      exact z_iret E M dX10_buyLicence_55 rfl rfl rfl rfl (by decide) (by decide)
  · refine z_icmp_neF (tgt := 30) E dX10_buyLicence_15 rfl (Classical.not_not.mp c8) ?_
    refine z_aload_n E 1 dX10_buyLicence_18 rfl ?_
    refine z_iconst E dX10_buyLicence_19 ic_1 ?_
    refine z_bipush E dX10_buyLicence_20 bp_8 ?_
    refine z_aload_n E 1 dX10_buyLicence_22 rfl ?_
    obtain ⟨_, e40, e⟩ := ob e
    obtain ⟨p41, e42, e⟩ := ob e
    refine z_kR2 (st := [.int (8 : Int32), .int (1 : Int32), .ref a0]) (av := [.ref a0]) E 0 0 (z_rV (st := [.int (8 : Int32), .int (1 : Int32), .ref a0]) (av := []) E Y_X10_seasonNow k_X10_136 (ci := 12) rfl (c_X10_seasonNow (z_El E) e42) dX10_buyLicence_23 e40 rfl rfl (by decide) (by decide) (by decide) (by decide) (Nat.le_of_ble_eq_true rfl)) rfl rfl rfl ?_
    obtain ⟨_, e43, e⟩ := ob e
    obtain ⟨p44, e45, e⟩ := ob e
    refine z_kR2 (st := []) (av := [.ref a0, .int (1 : Int32), .int (8 : Int32), .int p41]) E 0 0 (z_rV (st := []) (av := [.int (1 : Int32), .int (8 : Int32), .int p41]) E Y_X10_denies k_X10_80 (ci := 12) rfl (c_X10_denies (z_El E) e45) dX10_buyLicence_26 e43 rfl rfl (by decide) (by decide) (by decide) (by decide) (Nat.zero_le _)) rfl rfl rfl ?_
    obtain rfl := Option.some.inj e
    exact z_iret E M dX10_buyLicence_29 rfl rfl rfl rfl (by decide) (by decide)
theorem c_X10_buyLicence {l : Launch} (hl : l.stackTraces = false) {h : PH} {a0 : Nat} {r : (Int32 × PH)} (e : f_X10_buyLicence h a0 = some r) : CMet l yX10_buyLicence (z_W yX10_buyLicence cX10_buyLicence 2 (some .int)) rmX10_buyLicence h [.ref a0] (.inr (some (.int r.1))) r.2 :=
  z_met hl Y_X10_buyLicence (by decide +kernel) (Nat.le_of_ble_eq_true rfl) (fun X hX E T0 M => b_X10_buyLicence E T0 e M)
abbrev rmX9_pass : Room := { frames := 8, cells := 12, slots := 117, locals := 146 }
noncomputable def f_X9_pass (h : PH) (a0 : Nat) (a1 : Int32) : Option ((String ⊕ Int32) × PH) :=
  (gd h a0 11).bind fun _ =>
  (f_X9_change h a0 (11 : Int32) a1 (0 : Int32) (0 : Int32)).bind fun p2 =>
  Sum.elim
    (fun E4 =>
    some ((Sum.inl E4), p2.2))
    (fun y6 =>
    some ((Sum.inr y6), p2.2)) p2.1
theorem b_X9_pass {X : PX} (E : z_E X cX9_pass RX9 "pass" 2 rmX9_pass (some .int)) (T0 : z_T0 X) {h : PH} {a0 : Nat} {a1 : Int32} {r : ((String ⊕ Int32) × PH)} (e : f_X9_pass h a0 a1 = some r) (M : z_M X rmX9_pass.cells rmX9_pass.slots (zoI r.1) r.2) : WP X 2 0 0 0 [(0, .ref a0), (1, .int a1)] [] h := by
  unfold f_X9_pass at e
  refine z_aload_n E 0 dX9_pass_0 rfl ?_
  refine z_bipush E dX9_pass_1 bp_11 ?_
  refine z_iload_n E 1 dX9_pass_3 rfl ?_
  refine z_iconst E dX9_pass_4 ic_0 ?_
  refine z_iconst E dX9_pass_5 ic_0 ?_
  obtain ⟨_, e1, e⟩ := ob e
  obtain ⟨p2, e3, e⟩ := ob e
  rcases os e with ⟨E4, c5, e⟩ | ⟨y6, c5, e⟩
  · obtain rfl := Option.some.inj e
    refine z_kX2 (st := []) (av := [.ref a0, .int (11 : Int32), .int a1, .int (0 : Int32), .int (0 : Int32)]) E 12 117 (z_rV (st := []) (av := [.int (11 : Int32), .int a1, .int (0 : Int32), .int (0 : Int32)]) E Y_X9_change k_X9_61 (ci := 11) rfl (zc_o (c_X9_change (z_El E) e3) (by rw [c5]; rfl)) dX9_pass_6 e1 rfl rfl (by decide) (by decide) (by decide) (by decide) (Nat.zero_le _)) rfl rfl rfl ?_
    exact z_outX E T0 M rfl rfl (by decide) (by decide)
  · refine z_kR2 (st := []) (av := [.ref a0, .int (11 : Int32), .int a1, .int (0 : Int32), .int (0 : Int32)]) E 12 117 (z_rV (st := []) (av := [.int (11 : Int32), .int a1, .int (0 : Int32), .int (0 : Int32)]) E Y_X9_change k_X9_61 (ci := 11) rfl (zc_o (c_X9_change (z_El E) e3) (by rw [c5]; rfl)) dX9_pass_6 e1 rfl rfl (by decide) (by decide) (by decide) (by decide) (Nat.zero_le _)) rfl rfl rfl ?_
    obtain rfl := Option.some.inj e
    exact z_iret E M dX9_pass_9 rfl rfl rfl rfl (by decide) (by decide)
theorem c_X9_pass {l : Launch} (hl : l.stackTraces = false) {h : PH} {a0 : Nat} {a1 : Int32} {r : ((String ⊕ Int32) × PH)} (e : f_X9_pass h a0 a1 = some r) : CMet l yX9_pass (z_W yX9_pass cX9_pass 2 (some .int)) rmX9_pass h [.ref a0, .int a1] (zoI r.1) r.2 :=
  z_met hl Y_X9_pass (by decide +kernel) (Nat.le_of_ble_eq_true rfl) (fun X hX E T0 M => b_X9_pass E T0 e M)
abbrev rmL_pass : Room := { frames := 9, cells := 12, slots := 117, locals := 167 }
noncomputable def f_L_pass (h : PH) (a0 : Nat) (a1 : Int32) (a2 : Nat) : Option (Int32 × PH) :=
  (gd h a0 11).bind fun _ =>
  (f_X9_pass h a0 a1).bind fun p2 =>
  Sum.elim
    (fun E4 =>
    if E4 = "java/lang/IllegalArgumentException" then
      some ((1 : Int32), p2.2)
    else none)
    (fun y6 =>
    (asL p2.2 a2 (0 : Int32) y6.toInt64).bind fun h8 =>
    some ((0 : Int32), h8)) p2.1
theorem b_L_pass {X : PX} (E : z_E X cL_pass RL "pass" 4 rmL_pass (some .int)) (TT : z_TT X [(0, 9, 12, 13)]) {h : PH} {a0 : Nat} {a1 : Int32} {a2 : Nat} {r : (Int32 × PH)} (e : f_L_pass h a0 a1 a2 = some r) (M : z_M X rmL_pass.cells rmL_pass.slots (.inr (some (.int r.1))) r.2) : WP X 4 0 0 0 [(0, .ref a0), (1, .int a1), (2, .ref a2)] [] h := by
  unfold f_L_pass at e
  refine z_aload_n E 2 dL_pass_0 rfl ?_
  refine z_iconst E dL_pass_1 ic_0 ?_
  refine z_aload_n E 0 dL_pass_2 rfl ?_
  refine z_iload_n E 1 dL_pass_3 rfl ?_
  obtain ⟨_, e1, e⟩ := ob e
  obtain ⟨p2, e3, e⟩ := ob e
  rcases os e with ⟨E4, c5, e⟩ | ⟨y6, c5, e⟩
  · rcases oi e with ⟨c7, e⟩ | ⟨c7, e⟩
    · subst c7
      refine z_kX2 (st := [.int (0 : Int32), .ref a2]) (av := [.ref a0, .int a1]) E 12 117 (z_rV (st := [.int (0 : Int32), .ref a2]) (av := [.int a1]) E Y_X9_pass k_L_105 (ci := 11) rfl (zc_o (c_X9_pass (z_El E) e3) (by rw [c5]; rfl)) dL_pass_4 e1 rfl rfl (by decide) (by decide) (by decide) (by decide) (Nat.le_of_ble_eq_true rfl)) rfl rfl rfl ?_
      refine z_catch (lv2 := [(0, .ref a0), (1, .int a1), (2, .ref a2)]) E TT 0 (q := (0, 9, 12, 13)) rfl rfl (by decide) cl_L_13 kb_IllegalArgumentException (fun z hz => nomatch hz) (Or.inl ⟨_, dL_pass_12, rfl, rfl⟩) (by decide) rfl ?_
      refine z_iconst E dL_pass_13 ic_1 ?_
      obtain rfl := Option.some.inj e
      exact z_iret E M dL_pass_14 rfl rfl rfl rfl (by decide) (by decide)
    cases e
  · refine z_kR2 (st := [.int (0 : Int32), .ref a2]) (av := [.ref a0, .int a1]) E 12 117 (z_rV (st := [.int (0 : Int32), .ref a2]) (av := [.int a1]) E Y_X9_pass k_L_105 (ci := 11) rfl (zc_o (c_X9_pass (z_El E) e3) (by rw [c5]; rfl)) dL_pass_4 e1 rfl rfl (by decide) (by decide) (by decide) (by decide) (Nat.le_of_ble_eq_true rfl)) rfl rfl rfl ?_
    refine z_i2l (v := y6.toInt64) E dL_pass_7 rfl ?_
    obtain ⟨h8, e9, e⟩ := ob e
    refine z_last E dL_pass_8 e9 ?_
    refine z_goto (tgt := 15) E dL_pass_9 rfl ?_
    refine z_iconst E dL_pass_15 ic_0 ?_
    obtain rfl := Option.some.inj e
    exact z_iret E M dL_pass_16 rfl rfl rfl rfl (by decide) (by decide)
theorem c_L_pass {l : Launch} (hl : l.stackTraces = false) {h : PH} {a0 : Nat} {a1 : Int32} {a2 : Nat} {r : (Int32 × PH)} (e : f_L_pass h a0 a1 a2 = some r) : CMet l yL_pass (z_WH yL_pass cL_pass 4 (some .int) [(0, 9, 12, 13)]) rmL_pass h [.ref a0, .int a1, .ref a2] (.inr (some (.int r.1))) r.2 :=
  z_metH hl Y_L_pass (by decide +kernel) (Nat.le_of_ble_eq_true rfl) (fun X hX E T0 M => b_L_pass E T0 e M)
abbrev rmX10_goes : Room := { frames := 1, cells := 0, slots := 0, locals := 23 }
noncomputable def f_X10_goes_L58 : Nat → PH → Nat → Int32 → Int32 → Option (Int32 × PH)
  | 0, _, _, _, _ => none
  | fu + 1, h, v0, v2, v3 =>
    (rdR h v0 12 0).bind fun x1 =>
    (alI .int h x1 (0 : Int32)).bind fun x3 =>
    if x3 ≤ v3 then
      some (v2, h)
    else
      (gd h v0 12).bind fun _ =>
      (f_X10_seasonNow h v0).bind fun p7 =>
      if p7 = (3 : Int32) then
        some (v2, h)
      else
        (gd h v0 12).bind fun _ =>
        (f_X10_of h v0 v3 (2 : Int32)).bind fun p11 =>
        if ¬ p11 = 0 then
          (gd h v0 12).bind fun _ =>
          (f_X10_of h v0 v3 (0 : Int32)).bind fun p15 =>
          (gd h v0 12).bind fun _ =>
          (f_X10_lays h v0 v3 (0 : Int32) (zrem ((p15 + (0 : Int32)) + (12 : Int32)) (12 : Int32))).bind fun p18 =>
          f_X10_goes_L58 fu p18 v0 (v2 + (0 : Int32)) (v3 + (1 : Int32))
        else
          (rdR h v0 12 0).bind fun x20 =>
          (gd h v0 12).bind fun _ =>
          (f_X10_of h v0 v3 (0 : Int32)).bind fun p23 =>
          (alI .int h x20 ((8 : Int32) + p23)).bind fun x25 =>
          (gd h v0 12).bind fun _ =>
          (f_X10_of h v0 v3 (0 : Int32)).bind fun p28 =>
          (gd h v0 12).bind fun _ =>
          (f_X10_lays h v0 v3 (0 : Int32) (zrem ((p28 + x25) + (12 : Int32)) (12 : Int32))).bind fun p31 =>
          if ¬ x25 = 0 then
            f_X10_goes_L58 fu p31 v0 (v2 + (1 : Int32)) (v3 + (1 : Int32))
          else
            f_X10_goes_L58 fu p31 v0 (v2 + (0 : Int32)) (v3 + (1 : Int32))
theorem b_X10_goes_L58 {X : PX} (E : z_E X cX10_goes RX10 "goes" 5 rmX10_goes (some .int)) (T0 : z_T0 X) {k n : Nat} (hk : k + 0 ≤ rmX10_goes.cells) (hn : n + 0 ≤ rmX10_goes.slots) {s : (Int32 × PH)} : ∀ (fu : Nat) (h : PH) (v0 : Nat) (v2 : Int32) (v3 : Int32) (e : f_X10_goes_L58 fu h v0 v2 v3 = some s) (kk : WP X 5 k n 145 [(2, .int s.1)] [] s.2), WP X 5 k n 58 [(0, .ref v0), (2, .int v2), (3, .int v3)] [] h := by
  intro fu
  induction fu with
  | zero => intro h v0 v2 v3 e; exact absurd (show (none : Option (Int32 × PH)) = some s from e) (by intro z; cases z)
  | succ fu ih =>
    intro h v0 v2 v3 e kk
    unfold f_X10_goes_L58 at e
    refine z_iload_n E 2 dX10_goes_58 rfl ?_
    refine z_aload_n E 0 dX10_goes_59 rfl ?_
    obtain ⟨x1, e2, e⟩ := ob e
    refine z_getR E fl_X10_7 dX10_goes_60 e2 ?_
    refine z_iconst E dX10_goes_63 ic_0 ?_
    obtain ⟨x3, e4, e⟩ := ob e
    refine z_iald E dX10_goes_64 e4 ?_
    rcases oi e with ⟨c5, e⟩ | ⟨c5, e⟩
    · refine z_icmp_geT (tgt := 145) E dX10_goes_65 rfl c5 ?_
      obtain rfl := Option.some.inj e
      exact z_sub [1] rfl kk
    · refine z_icmp_geF (tgt := 145) E dX10_goes_65 rfl c5 ?_
      refine z_aload_n E 0 dX10_goes_68 rfl ?_
      obtain ⟨_, e6, e⟩ := ob e
      obtain ⟨p7, e8, e⟩ := ob e
      refine z_kR2 (st := []) (av := [.ref v0]) E k n (z_rV (st := []) (av := []) E Y_X10_seasonNow k_X10_136 (ci := 12) rfl (c_X10_seasonNow (z_El E) e8) dX10_goes_69 e6 rfl rfl (by decide) (by decide) (zk (k := k) (a := 0) hk (by decide)) (zk (k := n) (a := 0) hn (by decide)) (Nat.zero_le _)) rfl rfl rfl ?_
      refine z_iconst E dX10_goes_72 ic_3 ?_
      rcases oi e with ⟨c9, e⟩ | ⟨c9, e⟩
      · refine z_icmp_eqT (tgt := 145) E dX10_goes_73 rfl c9 ?_
        obtain rfl := Option.some.inj e
        exact z_sub [1] rfl kk
      · refine z_icmp_eqF (tgt := 145) E dX10_goes_73 rfl c9 ?_
        refine z_aload_n E 0 dX10_goes_76 rfl ?_
        refine z_iload_n E 2 dX10_goes_77 rfl ?_
        refine z_iconst E dX10_goes_78 ic_2 ?_
        obtain ⟨_, e10, e⟩ := ob e
        obtain ⟨p11, e12, e⟩ := ob e
        refine z_kR2 (st := []) (av := [.ref v0, .int v3, .int (2 : Int32)]) E k n (z_rV (st := []) (av := [.int v3, .int (2 : Int32)]) E Y_X10_of k_X10_73 (ci := 12) rfl (c_X10_of (z_El E) e12) dX10_goes_79 e10 rfl rfl (by decide) (by decide) (zk (k := k) (a := 0) hk (by decide)) (zk (k := n) (a := 0) hn (by decide)) (Nat.zero_le _)) rfl rfl rfl ?_
        rcases oi e with ⟨c13, e⟩ | ⟨c13, e⟩
        · refine z_if_neT (tgt := 102) E dX10_goes_82 rfl c13 ?_
          refine z_iconst E dX10_goes_102 ic_0 ?_
          refine z_istore (lv2 := [(4, .int (0 : Int32)), (0, .ref v0), (2, .int v2), (3, .int v3)]) E dX10_goes_103 (by decide) rfl ?_
          refine z_aload_n E 1 dX10_goes_105 rfl ?_
          refine z_iload_n E 3 dX10_goes_106 rfl ?_
          refine z_iconst E dX10_goes_107 ic_0 ?_
          refine z_aload_n E 1 dX10_goes_108 rfl ?_
          refine z_iload_n E 3 dX10_goes_109 rfl ?_
          refine z_iconst E dX10_goes_110 ic_0 ?_
          obtain ⟨_, e14, e⟩ := ob e
          obtain ⟨p15, e16, e⟩ := ob e
          refine z_kR2 (st := [.int (0 : Int32), .int v3, .ref v0]) (av := [.ref v0, .int v3, .int (0 : Int32)]) E k n (z_rV (st := [.int (0 : Int32), .int v3, .ref v0]) (av := [.int v3, .int (0 : Int32)]) E Y_X10_of k_X10_73 (ci := 12) rfl (c_X10_of (z_El E) e16) dX10_goes_111 e14 rfl rfl (by decide) (by decide) (zk (k := k) (a := 0) hk (by decide)) (zk (k := n) (a := 0) hn (by decide)) (Nat.le_of_ble_eq_true rfl)) rfl rfl rfl ?_
          refine z_iload E 0 dX10_goes_114 rfl ?_
          refine z_iadd E dX10_goes_116 ?_
          refine z_bipush E dX10_goes_117 bp_12 ?_
          refine z_iadd E dX10_goes_119 ?_
          refine z_bipush E dX10_goes_120 bp_12 ?_
          refine z_irem E dX10_goes_122 (by decide) ?_
          obtain ⟨_, e17, e⟩ := ob e
          obtain ⟨p18, e19, e⟩ := ob e
          refine z_kV2 (st := []) (av := [.ref v0, .int v3, .int (0 : Int32), .int (zrem ((p15 + (0 : Int32)) + (12 : Int32)) (12 : Int32))]) E k n (z_rV (st := []) (av := [.int v3, .int (0 : Int32), .int (zrem ((p15 + (0 : Int32)) + (12 : Int32)) (12 : Int32))]) E Y_X10_lays k_X10_88 (ci := 12) rfl (c_X10_lays (z_El E) e19) dX10_goes_123 e17 rfl rfl (by decide) (by decide) (zk (k := k) (a := 0) hk (by decide)) (zk (k := n) (a := 0) hn (by decide)) (Nat.zero_le _)) rfl rfl rfl ?_
          refine z_iload_n E 2 dX10_goes_126 rfl ?_
          refine z_iload E 0 dX10_goes_127 rfl ?_
          refine z_if_neF (tgt := 136) E dX10_goes_129 rfl (by decide) ?_
          refine z_iconst E dX10_goes_132 ic_0 ?_
          refine z_goto (tgt := 137) E dX10_goes_133 rfl ?_
          refine z_iadd E dX10_goes_137 ?_
          refine z_istore_n (lv2 := [(2, .int (v2 + (0 : Int32))), (4, .int (0 : Int32)), (0, .ref v0), (3, .int v3)]) E dX10_goes_138 (by decide) rfl ?_
          refine z_iinc (v := (v3 + (1 : Int32))) (lv2 := [(3, .int (v3 + (1 : Int32))), (2, .int (v2 + (0 : Int32))), (4, .int (0 : Int32)), (0, .ref v0)]) E 3 dX10_goes_139 rfl (congrArg (v3 + ·) ic_1) (by decide) rfl ?_
          refine z_goto (tgt := 58) E dX10_goes_142 rfl ?_
          exact z_sub [3, 1, 0] rfl (ih _ _ _ _ e kk)
        · refine z_if_neF (tgt := 102) E dX10_goes_82 rfl (Classical.not_not.mp c13) ?_
          refine z_aload_n E 0 dX10_goes_85 rfl ?_
          obtain ⟨x20, e21, e⟩ := ob e
          refine z_getR E fl_X10_7 dX10_goes_86 e21 ?_
          refine z_bipush E dX10_goes_89 bp_8 ?_
          refine z_aload_n E 0 dX10_goes_91 rfl ?_
          refine z_iload_n E 2 dX10_goes_92 rfl ?_
          refine z_iconst E dX10_goes_93 ic_0 ?_
          obtain ⟨_, e22, e⟩ := ob e
          obtain ⟨p23, e24, e⟩ := ob e
          refine z_kR2 (st := [.int (8 : Int32), .ref x20]) (av := [.ref v0, .int v3, .int (0 : Int32)]) E k n (z_rV (st := [.int (8 : Int32), .ref x20]) (av := [.int v3, .int (0 : Int32)]) E Y_X10_of k_X10_73 (ci := 12) rfl (c_X10_of (z_El E) e24) dX10_goes_94 e22 rfl rfl (by decide) (by decide) (zk (k := k) (a := 0) hk (by decide)) (zk (k := n) (a := 0) hn (by decide)) (Nat.le_of_ble_eq_true rfl)) rfl rfl rfl ?_
          refine z_iadd E dX10_goes_97 ?_
          obtain ⟨x25, e26, e⟩ := ob e
          refine z_iald E dX10_goes_98 e26 ?_
          refine z_goto (tgt := 103) E dX10_goes_99 rfl ?_
          refine z_istore (lv2 := [(4, .int x25), (0, .ref v0), (2, .int v2), (3, .int v3)]) E dX10_goes_103 (by decide) rfl ?_
          refine z_aload_n E 1 dX10_goes_105 rfl ?_
          refine z_iload_n E 3 dX10_goes_106 rfl ?_
          refine z_iconst E dX10_goes_107 ic_0 ?_
          refine z_aload_n E 1 dX10_goes_108 rfl ?_
          refine z_iload_n E 3 dX10_goes_109 rfl ?_
          refine z_iconst E dX10_goes_110 ic_0 ?_
          obtain ⟨_, e27, e⟩ := ob e
          obtain ⟨p28, e29, e⟩ := ob e
          refine z_kR2 (st := [.int (0 : Int32), .int v3, .ref v0]) (av := [.ref v0, .int v3, .int (0 : Int32)]) E k n (z_rV (st := [.int (0 : Int32), .int v3, .ref v0]) (av := [.int v3, .int (0 : Int32)]) E Y_X10_of k_X10_73 (ci := 12) rfl (c_X10_of (z_El E) e29) dX10_goes_111 e27 rfl rfl (by decide) (by decide) (zk (k := k) (a := 0) hk (by decide)) (zk (k := n) (a := 0) hn (by decide)) (Nat.le_of_ble_eq_true rfl)) rfl rfl rfl ?_
          refine z_iload E 0 dX10_goes_114 rfl ?_
          refine z_iadd E dX10_goes_116 ?_
          refine z_bipush E dX10_goes_117 bp_12 ?_
          refine z_iadd E dX10_goes_119 ?_
          refine z_bipush E dX10_goes_120 bp_12 ?_
          refine z_irem E dX10_goes_122 (by decide) ?_
          obtain ⟨_, e30, e⟩ := ob e
          obtain ⟨p31, e32, e⟩ := ob e
          refine z_kV2 (st := []) (av := [.ref v0, .int v3, .int (0 : Int32), .int (zrem ((p28 + x25) + (12 : Int32)) (12 : Int32))]) E k n (z_rV (st := []) (av := [.int v3, .int (0 : Int32), .int (zrem ((p28 + x25) + (12 : Int32)) (12 : Int32))]) E Y_X10_lays k_X10_88 (ci := 12) rfl (c_X10_lays (z_El E) e32) dX10_goes_123 e30 rfl rfl (by decide) (by decide) (zk (k := k) (a := 0) hk (by decide)) (zk (k := n) (a := 0) hn (by decide)) (Nat.zero_le _)) rfl rfl rfl ?_
          refine z_iload_n E 2 dX10_goes_126 rfl ?_
          refine z_iload E 0 dX10_goes_127 rfl ?_
          rcases oi e with ⟨c33, e⟩ | ⟨c33, e⟩
          · refine z_if_neT (tgt := 136) E dX10_goes_129 rfl c33 ?_
            refine z_iconst E dX10_goes_136 ic_1 ?_
            refine z_iadd E dX10_goes_137 ?_
            refine z_istore_n (lv2 := [(2, .int (v2 + (1 : Int32))), (4, .int x25), (0, .ref v0), (3, .int v3)]) E dX10_goes_138 (by decide) rfl ?_
            refine z_iinc (v := (v3 + (1 : Int32))) (lv2 := [(3, .int (v3 + (1 : Int32))), (2, .int (v2 + (1 : Int32))), (4, .int x25), (0, .ref v0)]) E 3 dX10_goes_139 rfl (congrArg (v3 + ·) ic_1) (by decide) rfl ?_
            refine z_goto (tgt := 58) E dX10_goes_142 rfl ?_
            exact z_sub [3, 1, 0] rfl (ih _ _ _ _ e kk)
          · refine z_if_neF (tgt := 136) E dX10_goes_129 rfl (Classical.not_not.mp c33) ?_
            refine z_iconst E dX10_goes_132 ic_0 ?_
            refine z_goto (tgt := 137) E dX10_goes_133 rfl ?_
            refine z_iadd E dX10_goes_137 ?_
            refine z_istore_n (lv2 := [(2, .int (v2 + (0 : Int32))), (4, .int x25), (0, .ref v0), (3, .int v3)]) E dX10_goes_138 (by decide) rfl ?_
            refine z_iinc (v := (v3 + (1 : Int32))) (lv2 := [(3, .int (v3 + (1 : Int32))), (2, .int (v2 + (0 : Int32))), (4, .int x25), (0, .ref v0)]) E 3 dX10_goes_139 rfl (congrArg (v3 + ·) ic_1) (by decide) rfl ?_
            refine z_goto (tgt := 58) E dX10_goes_142 rfl ?_
            exact z_sub [3, 1, 0] rfl (ih _ _ _ _ e kk)
noncomputable def f_X10_goes_J54 (h : PH) (v0 : Nat) : Option (Int32 × PH) :=
  (f_X10_goes_L58 FV h v0 (0 : Int32) (0 : Int32)).bind fun s1 =>
  some (s1.1, s1.2)
theorem b_X10_goes_J54 {X : PX} (E : z_E X cX10_goes RX10 "goes" 5 rmX10_goes (some .int)) (T0 : z_T0 X) {k n : Nat} (hk : k + 0 ≤ rmX10_goes.cells) (hn : n + 0 ≤ rmX10_goes.slots) {h : PH} {v0 : Nat} {r : (Int32 × PH)} (e : f_X10_goes_J54 h v0 = some r) (M : z_M X rmX10_goes.cells rmX10_goes.slots (.inr (some (.int r.1))) r.2) : WP X 5 k n 54 [(0, .ref v0)] [] h := by
  unfold f_X10_goes_J54 at e
  refine z_iconst E dX10_goes_54 ic_0 ?_
  refine z_istore_n (lv2 := [(2, .int (0 : Int32)), (0, .ref v0)]) E dX10_goes_55 (by decide) rfl ?_
  refine z_iconst E dX10_goes_56 ic_0 ?_
  refine z_istore_n (lv2 := [(3, .int (0 : Int32)), (2, .int (0 : Int32)), (0, .ref v0)]) E dX10_goes_57 (by decide) rfl ?_
  obtain ⟨s1, e2, e⟩ := ob e
  refine z_sub [2, 1, 0] rfl (b_X10_goes_L58 E T0 (zk (k := k) (a := 0) hk (by decide)) (zk (k := n) (a := 0) hn (by decide)) FV _ _ _ _ e2 ?_)
  refine z_iload_n E 0 dX10_goes_145 rfl ?_
  obtain rfl := Option.some.inj e
  exact z_iret E M dX10_goes_146 rfl rfl rfl rfl (zk (k := k) (a := 0) hk (by decide)) (zk (k := n) (a := 0) hn (by decide))
noncomputable def f_X10_goes_L32 : Nat → PH → Nat → Int32 → Option PH
  | 0, _, _, _ => none
  | fu + 1, h, v0, v2 =>
    if (12 : Int32) ≤ v2 then
      some h
    else
      (rdR h v0 12 0).bind fun x2 =>
      (asI .int h x2 ((32 : Int32) + v2) (0 : Int32)).bind fun h4 =>
      f_X10_goes_L32 fu h4 v0 (v2 + (1 : Int32))
theorem b_X10_goes_L32 {X : PX} (E : z_E X cX10_goes RX10 "goes" 5 rmX10_goes (some .int)) (T0 : z_T0 X) {k n : Nat} (hk : k + 0 ≤ rmX10_goes.cells) (hn : n + 0 ≤ rmX10_goes.slots) {s : PH} : ∀ (fu : Nat) (h : PH) (v0 : Nat) (v2 : Int32) (e : f_X10_goes_L32 fu h v0 v2 = some s) (kk : WP X 5 k n 54 [(0, .ref v0)] [] s), WP X 5 k n 32 [(0, .ref v0), (2, .int v2)] [] h := by
  intro fu
  induction fu with
  | zero => intro h v0 v2 e; exact absurd (show (none : Option PH) = some s from e) (by intro z; cases z)
  | succ fu ih =>
    intro h v0 v2 e kk
    unfold f_X10_goes_L32 at e
    refine z_iload_n E 1 dX10_goes_32 rfl ?_
    refine z_bipush E dX10_goes_33 bp_12 ?_
    rcases oi e with ⟨c1, e⟩ | ⟨c1, e⟩
    · refine z_icmp_geT (tgt := 54) E dX10_goes_35 rfl c1 ?_
      obtain rfl := Option.some.inj e
      exact z_sub [0] rfl kk
    · refine z_icmp_geF (tgt := 54) E dX10_goes_35 rfl c1 ?_
      refine z_aload_n E 0 dX10_goes_38 rfl ?_
      obtain ⟨x2, e3, e⟩ := ob e
      refine z_getR E fl_X10_7 dX10_goes_39 e3 ?_
      refine z_bipush E dX10_goes_42 bp_32 ?_
      refine z_iload_n E 1 dX10_goes_44 rfl ?_
      refine z_iadd E dX10_goes_45 ?_
      refine z_iconst E dX10_goes_46 ic_0 ?_
      obtain ⟨h4, e5, e⟩ := ob e
      refine z_iast E dX10_goes_47 e5 ?_
      refine z_iinc (v := (v2 + (1 : Int32))) (lv2 := [(2, .int (v2 + (1 : Int32))), (0, .ref v0)]) E 1 dX10_goes_48 rfl (congrArg (v2 + ·) ic_1) (by decide) rfl ?_
      refine z_goto (tgt := 32) E dX10_goes_51 rfl ?_
      exact z_sub [1, 0] rfl (ih _ _ _ e kk)
noncomputable def f_X10_goes (h : PH) (a0 : Nat) : Option (Int32 × PH) :=
  (gd h a0 12).bind fun _ =>
  (f_X10_seasonNow h a0).bind fun p2 =>
  (rdR h a0 12 0).bind fun x4 =>
  (alI .int h x4 (2 : Int32)).bind fun x6 =>
  (asI .int h x4 (2 : Int32) (x6 + (1 : Int32))).bind fun h8 =>
  (gd h8 a0 12).bind fun _ =>
  (f_X10_seasonNow h8 a0).bind fun p11 =>
  if p11 = p2 then
    f_X10_goes_J54 h8 a0
  else
    (rdR h8 a0 12 0).bind fun x14 =>
    (asI .int h8 x14 (3 : Int32) (0 : Int32)).bind fun h16 =>
    (f_X10_goes_L32 FV h16 a0 (0 : Int32)).bind fun s18 =>
    f_X10_goes_J54 s18 a0
theorem b_X10_goes {X : PX} (E : z_E X cX10_goes RX10 "goes" 5 rmX10_goes (some .int)) (T0 : z_T0 X) {h : PH} {a0 : Nat} {r : (Int32 × PH)} (e : f_X10_goes h a0 = some r) (M : z_M X rmX10_goes.cells rmX10_goes.slots (.inr (some (.int r.1))) r.2) : WP X 5 0 0 0 [(0, .ref a0)] [] h := by
  unfold f_X10_goes at e
  refine z_aload_n E 0 dX10_goes_0 rfl ?_
  obtain ⟨_, e1, e⟩ := ob e
  obtain ⟨p2, e3, e⟩ := ob e
  refine z_kR2 (st := []) (av := [.ref a0]) E 0 0 (z_rV (st := []) (av := []) E Y_X10_seasonNow k_X10_136 (ci := 12) rfl (c_X10_seasonNow (z_El E) e3) dX10_goes_1 e1 rfl rfl (by decide) (by decide) (by decide) (by decide) (Nat.zero_le _)) rfl rfl rfl ?_
  refine z_istore_n (lv2 := [(1, .int p2), (0, .ref a0)]) E dX10_goes_4 (by decide) rfl ?_
  refine z_aload_n E 1 dX10_goes_5 rfl ?_
  obtain ⟨x4, e5, e⟩ := ob e
  refine z_getR E fl_X10_7 dX10_goes_6 e5 ?_
  refine z_iconst E dX10_goes_9 ic_2 ?_
  refine z_dup2 E dX10_goes_10 rfl rfl ?_
  obtain ⟨x6, e7, e⟩ := ob e
  refine z_iald E dX10_goes_11 e7 ?_
  refine z_iconst E dX10_goes_12 ic_1 ?_
  refine z_iadd E dX10_goes_13 ?_
  obtain ⟨h8, e9, e⟩ := ob e
  refine z_iast E dX10_goes_14 e9 ?_
  refine z_aload_n E 1 dX10_goes_15 rfl ?_
  obtain ⟨_, e10, e⟩ := ob e
  obtain ⟨p11, e12, e⟩ := ob e
  refine z_kR2 (st := []) (av := [.ref a0]) E 0 0 (z_rV (st := []) (av := []) E Y_X10_seasonNow k_X10_136 (ci := 12) rfl (c_X10_seasonNow (z_El E) e12) dX10_goes_16 e10 rfl rfl (by decide) (by decide) (by decide) (by decide) (Nat.zero_le _)) rfl rfl rfl ?_
  refine z_iload_n E 0 dX10_goes_19 rfl ?_
  rcases oi e with ⟨c13, e⟩ | ⟨c13, e⟩
  · refine z_icmp_eqT (tgt := 54) E dX10_goes_20 rfl c13 ?_
    exact z_sub [1] rfl (b_X10_goes_J54 E T0 (by decide) (by decide) e M)
  · refine z_icmp_eqF (tgt := 54) E dX10_goes_20 rfl c13 ?_
    refine z_aload_n E 1 dX10_goes_23 rfl ?_
    obtain ⟨x14, e15, e⟩ := ob e
    refine z_getR E fl_X10_7 dX10_goes_24 e15 ?_
    refine z_iconst E dX10_goes_27 ic_3 ?_
    refine z_iconst E dX10_goes_28 ic_0 ?_
    obtain ⟨h16, e17, e⟩ := ob e
    refine z_iast E dX10_goes_29 e17 ?_
    refine z_iconst E dX10_goes_30 ic_0 ?_
    refine z_istore_n (lv2 := [(2, .int (0 : Int32)), (1, .int p2), (0, .ref a0)]) E dX10_goes_31 (by decide) rfl ?_
    obtain ⟨s18, e19, e⟩ := ob e
    refine z_sub [2, 0] rfl (b_X10_goes_L32 E T0 (by decide) (by decide) FV _ _ _ e19 ?_)
    exact z_sub [0] rfl (b_X10_goes_J54 E T0 (by decide) (by decide) e M)
theorem c_X10_goes {l : Launch} (hl : l.stackTraces = false) {h : PH} {a0 : Nat} {r : (Int32 × PH)} (e : f_X10_goes h a0 = some r) : CMet l yX10_goes (z_W yX10_goes cX10_goes 5 (some .int)) rmX10_goes h [.ref a0] (.inr (some (.int r.1))) r.2 :=
  z_met hl Y_X10_goes (by decide +kernel) (Nat.le_of_ble_eq_true rfl) (fun X hX E T0 M => b_X10_goes E T0 e M)
abbrev rmX10_pass : Room := { frames := 2, cells := 0, slots := 0, locals := 47 }
noncomputable def f_X10_pass_L36 : Nat → PH → Nat → Int32 → Int32 → Int32 → Option (Int32 × PH)
  | 0, _, _, _, _, _ => none
  | fu + 1, h, v0, v1, v2, v3 =>
    if v1 ≤ v3 then
      some (v2, h)
    else
      (gd h v0 12).bind fun _ =>
      (f_X10_goes h v0).bind fun p3 =>
      f_X10_pass_L36 fu p3.2 v0 v1 (v2 + p3.1) (v3 + (1 : Int32))
theorem b_X10_pass_L36 {X : PX} (E : z_E X cX10_pass RX10 "pass" 4 rmX10_pass (some .int)) (T0 : z_T0 X) {k n : Nat} (hk : k + 0 ≤ rmX10_pass.cells) (hn : n + 0 ≤ rmX10_pass.slots) {s : (Int32 × PH)} : ∀ (fu : Nat) (h : PH) (v0 : Nat) (v1 : Int32) (v2 : Int32) (v3 : Int32) (e : f_X10_pass_L36 fu h v0 v1 v2 v3 = some s) (kk : WP X 4 k n 54 [(2, .int s.1)] [] s.2), WP X 4 k n 36 [(0, .ref v0), (1, .int v1), (2, .int v2), (3, .int v3)] [] h := by
  intro fu
  induction fu with
  | zero => intro h v0 v1 v2 v3 e; exact absurd (show (none : Option (Int32 × PH)) = some s from e) (by intro z; cases z)
  | succ fu ih =>
    intro h v0 v1 v2 v3 e kk
    unfold f_X10_pass_L36 at e
    refine z_iload_n E 3 dX10_pass_36 rfl ?_
    refine z_iload_n E 1 dX10_pass_37 rfl ?_
    rcases oi e with ⟨c1, e⟩ | ⟨c1, e⟩
    · refine z_icmp_geT (tgt := 54) E dX10_pass_38 rfl c1 ?_
      obtain rfl := Option.some.inj e
      exact z_sub [2] rfl kk
    · refine z_icmp_geF (tgt := 54) E dX10_pass_38 rfl c1 ?_
      refine z_iload_n E 2 dX10_pass_41 rfl ?_
      refine z_aload_n E 0 dX10_pass_42 rfl ?_
      obtain ⟨_, e2, e⟩ := ob e
      obtain ⟨p3, e4, e⟩ := ob e
      refine z_kR2 (st := [.int v2]) (av := [.ref v0]) E k n (z_rV (st := [.int v2]) (av := []) E Y_X10_goes k_X10_172 (ci := 12) rfl (c_X10_goes (z_El E) e4) dX10_pass_43 e2 rfl rfl (by decide) (by decide) (zk (k := k) (a := 0) hk (by decide)) (zk (k := n) (a := 0) hn (by decide)) (Nat.le_of_ble_eq_true rfl)) rfl rfl rfl ?_
      refine z_iadd E dX10_pass_46 ?_
      refine z_istore_n (lv2 := [(2, .int (v2 + p3.1)), (0, .ref v0), (1, .int v1), (3, .int v3)]) E dX10_pass_47 (by decide) rfl ?_
      refine z_iinc (v := (v3 + (1 : Int32))) (lv2 := [(3, .int (v3 + (1 : Int32))), (2, .int (v2 + p3.1)), (0, .ref v0), (1, .int v1)]) E 3 dX10_pass_48 rfl (congrArg (v3 + ·) ic_1) (by decide) rfl ?_
      refine z_goto (tgt := 36) E dX10_pass_51 rfl ?_
      exact z_sub [2, 3, 1, 0] rfl (ih _ _ _ _ _ e kk)
noncomputable def f_X10_pass_J16 (h : PH) (v0 : Nat) (v1 : Int32) (w0 : Int32) (w1 : Nat) : Option (Int32 × PH) :=
  (gd h w1 12).bind fun _ =>
  (f_X10_fails h w1 w0).bind fun p2 =>
  if p2.1 = false then
    (rdR p2.2 v0 12 0).bind fun x5 =>
    (gd p2.2 v0 12).bind fun _ =>
    (f_X10_keeps p2.2 v0 x5).bind fun p8 =>
    (f_X10_pass_L36 FV p8 v0 v1 (0 : Int32) (0 : Int32)).bind fun s10 =>
    some (s10.1, s10.2)
  else
    some ((0 : Int32), p2.2)
theorem b_X10_pass_J16 {X : PX} (E : z_E X cX10_pass RX10 "pass" 4 rmX10_pass (some .int)) (T0 : z_T0 X) {k n : Nat} (hk : k + 0 ≤ rmX10_pass.cells) (hn : n + 0 ≤ rmX10_pass.slots) {h : PH} {v0 : Nat} {v1 : Int32} {w0 : Int32} {w1 : Nat} {r : (Int32 × PH)} (e : f_X10_pass_J16 h v0 v1 w0 w1 = some r) (M : z_M X rmX10_pass.cells rmX10_pass.slots (.inr (some (.int r.1))) r.2) : WP X 4 k n 16 [(0, .ref v0), (1, .int v1)] [.int w0, .ref w1] h := by
  unfold f_X10_pass_J16 at e
  obtain ⟨_, e1, e⟩ := ob e
  obtain ⟨p2, e3, e⟩ := ob e
  refine z_kR2 (st := []) (av := [.ref w1, .int w0]) E k n (z_rV (st := []) (av := [.int w0]) E Y_X10_fails k_X10_70 (ci := 12) rfl (c_X10_fails (z_El E) e3) dX10_pass_16 e1 rfl rfl (by decide) (by decide) (zk (k := k) (a := 0) hk (by decide)) (zk (k := n) (a := 0) hn (by decide)) (Nat.zero_le _)) rfl rfl rfl ?_
  rcases oi e with ⟨c4, e⟩ | ⟨c4, e⟩
  · refine z_if_eqT (tgt := 24) E dX10_pass_19 rfl (zb_f c4) ?_
    refine z_aload_n E 0 dX10_pass_24 rfl ?_
    refine z_aload_n E 0 dX10_pass_25 rfl ?_
    obtain ⟨x5, e6, e⟩ := ob e
    refine z_getR E fl_X10_7 dX10_pass_26 e6 ?_
    obtain ⟨_, e7, e⟩ := ob e
    obtain ⟨p8, e9, e⟩ := ob e
    refine z_kV2 (st := []) (av := [.ref v0, .ref x5]) E k n (z_rV (st := []) (av := [.ref x5]) E Y_X10_keeps k_X10_84 (ci := 12) rfl (c_X10_keeps (z_El E) e9) dX10_pass_29 e7 rfl rfl (by decide) (by decide) (zk (k := k) (a := 0) hk (by decide)) (zk (k := n) (a := 0) hn (by decide)) (Nat.zero_le _)) rfl rfl rfl ?_
    refine z_iconst E dX10_pass_32 ic_0 ?_
    refine z_istore_n (lv2 := [(2, .int (0 : Int32)), (0, .ref v0), (1, .int v1)]) E dX10_pass_33 (by decide) rfl ?_
    refine z_iconst E dX10_pass_34 ic_0 ?_
    refine z_istore_n (lv2 := [(3, .int (0 : Int32)), (2, .int (0 : Int32)), (0, .ref v0), (1, .int v1)]) E dX10_pass_35 (by decide) rfl ?_
    obtain ⟨s10, e11, e⟩ := ob e
    refine z_sub [2, 3, 1, 0] rfl (b_X10_pass_L36 E T0 (zk (k := k) (a := 0) hk (by decide)) (zk (k := n) (a := 0) hn (by decide)) FV _ _ _ _ _ e11 ?_)
    refine z_iload_n E 0 dX10_pass_54 rfl ?_
    obtain rfl := Option.some.inj e
    exact z_iret E M dX10_pass_55 rfl rfl rfl rfl (zk (k := k) (a := 0) hk (by decide)) (zk (k := n) (a := 0) hn (by decide))
  · refine z_if_eqF (tgt := 24) E dX10_pass_19 rfl (zb_nf c4) ?_
    refine z_iconst E dX10_pass_22 ic_0 ?_
    obtain rfl := Option.some.inj e
    exact z_iret E M dX10_pass_23 rfl rfl rfl rfl (zk (k := k) (a := 0) hk (by decide)) (zk (k := n) (a := 0) hn (by decide))
noncomputable def f_X10_pass (h : PH) (a0 : Nat) (a1 : Int32) : Option (Int32 × PH) :=
  if (f_X10_in a1 (1 : Int32) (40 : Int32)) = false then
    f_X10_pass_J16 h a0 a1 (1 : Int32) a0
  else
    f_X10_pass_J16 h a0 a1 (0 : Int32) a0
theorem b_X10_pass {X : PX} (E : z_E X cX10_pass RX10 "pass" 4 rmX10_pass (some .int)) (T0 : z_T0 X) {h : PH} {a0 : Nat} {a1 : Int32} {r : (Int32 × PH)} (e : f_X10_pass h a0 a1 = some r) (M : z_M X rmX10_pass.cells rmX10_pass.slots (.inr (some (.int r.1))) r.2) : WP X 4 0 0 0 [(0, .ref a0), (1, .int a1)] [] h := by
  unfold f_X10_pass at e
  refine z_aload_n E 0 dX10_pass_0 rfl ?_
  refine z_iload_n E 1 dX10_pass_1 rfl ?_
  refine z_iconst E dX10_pass_2 ic_1 ?_
  refine z_bipush E dX10_pass_3 bp_40 ?_
  refine z_kR2 (st := [.ref a0]) (av := [.int a1, .int (1 : Int32), .int (40 : Int32)]) E 0 0 (z_rS (st := [.ref a0]) (av := [.int a1, .int (1 : Int32), .int (40 : Int32)]) E Y_X10_in k_X10_62 (c_X10_in (l := z_l X) (h := h) (z_El E) a1 (1 : Int32) (40 : Int32)) dX10_pass_5 rfl rfl (by decide) (by decide) (by decide) (by decide) (Nat.le_of_ble_eq_true rfl)) rfl rfl rfl ?_
  rcases oi e with ⟨c1, e⟩ | ⟨c1, e⟩
  · refine z_if_eqT (tgt := 15) E dX10_pass_8 rfl (zb_f c1) ?_
    refine z_iconst E dX10_pass_15 ic_1 ?_
    exact z_sub [0, 1] rfl (b_X10_pass_J16 E T0 (by decide) (by decide) e M)
  · refine z_if_eqF (tgt := 15) E dX10_pass_8 rfl (zb_nf c1) ?_
    refine z_iconst E dX10_pass_11 ic_0 ?_
    refine z_goto (tgt := 16) E dX10_pass_12 rfl ?_
    exact z_sub [0, 1] rfl (b_X10_pass_J16 E T0 (by decide) (by decide) e M)
theorem c_X10_pass {l : Launch} (hl : l.stackTraces = false) {h : PH} {a0 : Nat} {a1 : Int32} {r : (Int32 × PH)} (e : f_X10_pass h a0 a1 = some r) : CMet l yX10_pass (z_W yX10_pass cX10_pass 4 (some .int)) rmX10_pass h [.ref a0, .int a1] (.inr (some (.int r.1))) r.2 :=
  z_met hl Y_X10_pass (by decide +kernel) (Nat.le_of_ble_eq_true rfl) (fun X hX E T0 M => b_X10_pass E T0 e M)
abbrev rmX9_hasLicence : Room := { frames := 0, cells := 0, slots := 0, locals := 0 }
noncomputable def f_X9_hasLicence (h : PH) (a0 : Nat) : Option Bool :=
  (rdR h a0 11 0).bind fun x1 =>
  (rdI h x1 9 12).bind fun x3 =>
  (zn .boolean x3).bind fun x5 =>
  some (x5 == 1)
theorem b_X9_hasLicence {X : PX} (E : z_E X cX9_hasLicence RX9 "hasLicence" 1 rmX9_hasLicence (some .boolean)) (T0 : z_T0 X) {h : PH} {a0 : Nat} {r : Bool} (e : f_X9_hasLicence h a0 = some r) (M : z_M X rmX9_hasLicence.cells rmX9_hasLicence.slots (.inr (some (.int (zb r)))) h) : WP X 1 0 0 0 [(0, .ref a0)] [] h := by
  unfold f_X9_hasLicence at e
  refine z_aload_n E 0 dX9_hasLicence_0 rfl ?_
  obtain ⟨x1, e2, e⟩ := ob e
  refine z_getR E fl_X9_12 dX9_hasLicence_1 e2 ?_
  obtain ⟨x3, e4, e⟩ := ob e
  refine z_getI E fl_X9_181 dX9_hasLicence_4 e4 ?_
  obtain ⟨x5, e6, e⟩ := ob e
  obtain ⟨x5a, x5b⟩ := z_znb e6
  obtain rfl := Option.some.inj e
  exact z_iret E M dX9_hasLicence_7 rfl x5b (congrArg (fun z => Sum.inr (some (Value.int z))) x5a.symm) rfl (by decide) (by decide)
theorem c_X9_hasLicence {l : Launch} (hl : l.stackTraces = false) {h : PH} {a0 : Nat} {r : Bool} (e : f_X9_hasLicence h a0 = some r) : CMet l yX9_hasLicence (z_W yX9_hasLicence cX9_hasLicence 1 (some .boolean)) rmX9_hasLicence h [.ref a0] (.inr (some (.int (zb r)))) h :=
  z_met hl Y_X9_hasLicence (by decide +kernel) (Nat.le_of_ble_eq_true rfl) (fun X hX E T0 M => b_X9_hasLicence E T0 e M)
abbrev rmX10_hasLicence : Room := { frames := 0, cells := 0, slots := 0, locals := 0 }
noncomputable def f_X10_hasLicence (h : PH) (a0 : Nat) : Option (Bool × PH) :=
  (wr h a0 12 8 (.int (0 : Int32))).bind fun h1 =>
  (rdR h1 a0 12 0).bind fun x3 =>
  (alI .int h1 x3 (3 : Int32)).bind fun x5 =>
  if ¬ x5 = (1 : Int32) then
    some (false, h1)
  else
    some (true, h1)
theorem b_X10_hasLicence {X : PX} (E : z_E X cX10_hasLicence RX10 "hasLicence" 1 rmX10_hasLicence (some .boolean)) (T0 : z_T0 X) {h : PH} {a0 : Nat} {r : (Bool × PH)} (e : f_X10_hasLicence h a0 = some r) (M : z_M X rmX10_hasLicence.cells rmX10_hasLicence.slots (.inr (some (.int (zb r.1)))) r.2) : WP X 1 0 0 0 [(0, .ref a0)] [] h := by
  unfold f_X10_hasLicence at e
  refine z_aload_n E 0 dX10_hasLicence_0 rfl ?_
  refine z_iconst E dX10_hasLicence_1 ic_0 ?_
  obtain ⟨h1, e2, e⟩ := ob e
  refine z_putI E fp_X10_36 (Or.inl rfl) dX10_hasLicence_2 e2 ?_
  refine z_aload_n E 0 dX10_hasLicence_5 rfl ?_
  obtain ⟨x3, e4, e⟩ := ob e
  refine z_getR E fl_X10_7 dX10_hasLicence_6 e4 ?_
  refine z_iconst E dX10_hasLicence_9 ic_3 ?_
  obtain ⟨x5, e6, e⟩ := ob e
  refine z_iald E dX10_hasLicence_10 e6 ?_
  refine z_iconst E dX10_hasLicence_11 ic_1 ?_
  rcases oi e with ⟨c7, e⟩ | ⟨c7, e⟩
  · refine z_icmp_neT (tgt := 19) E dX10_hasLicence_12 rfl c7 ?_
    refine z_iconst E dX10_hasLicence_19 ic_0 ?_
    obtain rfl := Option.some.inj e
    exact z_iret E M dX10_hasLicence_20 rfl rfl rfl rfl (by decide) (by decide)
  · refine z_icmp_neF (tgt := 19) E dX10_hasLicence_12 rfl (Classical.not_not.mp c7) ?_
    refine z_iconst E dX10_hasLicence_15 ic_1 ?_
    refine z_goto (tgt := 20) E dX10_hasLicence_16 rfl ?_
    obtain rfl := Option.some.inj e
    exact z_iret E M dX10_hasLicence_20 rfl rfl rfl rfl (by decide) (by decide)
theorem c_X10_hasLicence {l : Launch} (hl : l.stackTraces = false) {h : PH} {a0 : Nat} {r : (Bool × PH)} (e : f_X10_hasLicence h a0 = some r) : CMet l yX10_hasLicence (z_W yX10_hasLicence cX10_hasLicence 1 (some .boolean)) rmX10_hasLicence h [.ref a0] (.inr (some (.int (zb r.1)))) r.2 :=
  z_met hl Y_X10_hasLicence (by decide +kernel) (Nat.le_of_ble_eq_true rfl) (fun X hX E T0 M => b_X10_hasLicence E T0 e M)
abbrev rmX9_day : Room := { frames := 0, cells := 0, slots := 0, locals := 0 }
noncomputable def f_X9_day (h : PH) (a0 : Nat) : Option Int32 :=
  (rdR h a0 11 0).bind fun x1 =>
  (rdI h x1 9 13).bind fun x3 =>
  some x3
theorem b_X9_day {X : PX} (E : z_E X cX9_day RX9 "day" 1 rmX9_day (some .int)) (T0 : z_T0 X) {h : PH} {a0 : Nat} {r : Int32} (e : f_X9_day h a0 = some r) (M : z_M X rmX9_day.cells rmX9_day.slots (.inr (some (.int r))) h) : WP X 1 0 0 0 [(0, .ref a0)] [] h := by
  unfold f_X9_day at e
  refine z_aload_n E 0 dX9_day_0 rfl ?_
  obtain ⟨x1, e2, e⟩ := ob e
  refine z_getR E fl_X9_12 dX9_day_1 e2 ?_
  obtain ⟨x3, e4, e⟩ := ob e
  refine z_getI E fl_X9_185 dX9_day_4 e4 ?_
  obtain rfl := Option.some.inj e
  exact z_iret E M dX9_day_7 rfl rfl rfl rfl (by decide) (by decide)
theorem c_X9_day {l : Launch} (hl : l.stackTraces = false) {h : PH} {a0 : Nat} {r : Int32} (e : f_X9_day h a0 = some r) : CMet l yX9_day (z_W yX9_day cX9_day 1 (some .int)) rmX9_day h [.ref a0] (.inr (some (.int r))) h :=
  z_met hl Y_X9_day (by decide +kernel) (Nat.le_of_ble_eq_true rfl) (fun X hX E T0 M => b_X9_day E T0 e M)
abbrev rmX10_day : Room := { frames := 0, cells := 0, slots := 0, locals := 0 }
noncomputable def f_X10_day (h : PH) (a0 : Nat) : Option (Int32 × PH) :=
  (wr h a0 12 8 (.int (0 : Int32))).bind fun h1 =>
  (rdR h1 a0 12 0).bind fun x3 =>
  (alI .int h1 x3 (2 : Int32)).bind fun x5 =>
  some (x5, h1)
theorem b_X10_day {X : PX} (E : z_E X cX10_day RX10 "day" 1 rmX10_day (some .int)) (T0 : z_T0 X) {h : PH} {a0 : Nat} {r : (Int32 × PH)} (e : f_X10_day h a0 = some r) (M : z_M X rmX10_day.cells rmX10_day.slots (.inr (some (.int r.1))) r.2) : WP X 1 0 0 0 [(0, .ref a0)] [] h := by
  unfold f_X10_day at e
  refine z_aload_n E 0 dX10_day_0 rfl ?_
  refine z_iconst E dX10_day_1 ic_0 ?_
  obtain ⟨h1, e2, e⟩ := ob e
  refine z_putI E fp_X10_36 (Or.inl rfl) dX10_day_2 e2 ?_
  refine z_aload_n E 0 dX10_day_5 rfl ?_
  obtain ⟨x3, e4, e⟩ := ob e
  refine z_getR E fl_X10_7 dX10_day_6 e4 ?_
  refine z_iconst E dX10_day_9 ic_2 ?_
  obtain ⟨x5, e6, e⟩ := ob e
  refine z_iald E dX10_day_10 e6 ?_
  obtain rfl := Option.some.inj e
  exact z_iret E M dX10_day_11 rfl rfl rfl rfl (by decide) (by decide)
theorem c_X10_day {l : Launch} (hl : l.stackTraces = false) {h : PH} {a0 : Nat} {r : (Int32 × PH)} (e : f_X10_day h a0 = some r) : CMet l yX10_day (z_W yX10_day cX10_day 1 (some .int)) rmX10_day h [.ref a0] (.inr (some (.int r.1))) r.2 :=
  z_met hl Y_X10_day (by decide +kernel) (Nat.le_of_ble_eq_true rfl) (fun X hX E T0 M => b_X10_day E T0 e M)
abbrev rmX9_season : Room := { frames := 2, cells := 0, slots := 0, locals := 42 }
noncomputable def f_X9_season (h : PH) (a0 : Nat) : Option Int32 :=
  (rdR h a0 11 0).bind fun x1 =>
  (gd h x1 9).bind fun _ =>
  (f_X7_presentSeason h x1).bind fun p4 =>
  some p4
theorem b_X9_season {X : PX} (E : z_E X cX9_season RX9 "season" 1 rmX9_season (some .int)) (T0 : z_T0 X) {h : PH} {a0 : Nat} {r : Int32} (e : f_X9_season h a0 = some r) (M : z_M X rmX9_season.cells rmX9_season.slots (.inr (some (.int r))) h) : WP X 1 0 0 0 [(0, .ref a0)] [] h := by
  unfold f_X9_season at e
  refine z_aload_n E 0 dX9_season_0 rfl ?_
  obtain ⟨x1, e2, e⟩ := ob e
  refine z_getR E fl_X9_12 dX9_season_1 e2 ?_
  obtain ⟨_, e3, e⟩ := ob e
  obtain ⟨p4, e5, e⟩ := ob e
  refine z_kR2 (st := []) (av := [.ref x1]) E 0 0 (z_rV (st := []) (av := []) E Y_X7_presentSeason k_X9_188 (ci := 9) rfl (c_X7_presentSeason (z_El E) e5) dX9_season_4 e3 rfl rfl (by decide) (by decide) (by decide) (by decide) (Nat.zero_le _)) rfl rfl rfl ?_
  obtain rfl := Option.some.inj e
  exact z_iret E M dX9_season_7 rfl rfl rfl rfl (by decide) (by decide)
theorem c_X9_season {l : Launch} (hl : l.stackTraces = false) {h : PH} {a0 : Nat} {r : Int32} (e : f_X9_season h a0 = some r) : CMet l yX9_season (z_W yX9_season cX9_season 1 (some .int)) rmX9_season h [.ref a0] (.inr (some (.int r))) h :=
  z_met hl Y_X9_season (by decide +kernel) (Nat.le_of_ble_eq_true rfl) (fun X hX E T0 M => b_X9_season E T0 e M)
abbrev rmX10_season : Room := { frames := 1, cells := 0, slots := 0, locals := 20 }
noncomputable def f_X10_season (h : PH) (a0 : Nat) : Option (Int32 × PH) :=
  (wr h a0 12 8 (.int (0 : Int32))).bind fun h1 =>
  (gd h1 a0 12).bind fun _ =>
  (f_X10_seasonNow h1 a0).bind fun p4 =>
  some (p4, h1)
theorem b_X10_season {X : PX} (E : z_E X cX10_season RX10 "season" 1 rmX10_season (some .int)) (T0 : z_T0 X) {h : PH} {a0 : Nat} {r : (Int32 × PH)} (e : f_X10_season h a0 = some r) (M : z_M X rmX10_season.cells rmX10_season.slots (.inr (some (.int r.1))) r.2) : WP X 1 0 0 0 [(0, .ref a0)] [] h := by
  unfold f_X10_season at e
  refine z_aload_n E 0 dX10_season_0 rfl ?_
  refine z_iconst E dX10_season_1 ic_0 ?_
  obtain ⟨h1, e2, e⟩ := ob e
  refine z_putI E fp_X10_36 (Or.inl rfl) dX10_season_2 e2 ?_
  refine z_aload_n E 0 dX10_season_5 rfl ?_
  obtain ⟨_, e3, e⟩ := ob e
  obtain ⟨p4, e5, e⟩ := ob e
  refine z_kR2 (st := []) (av := [.ref a0]) E 0 0 (z_rV (st := []) (av := []) E Y_X10_seasonNow k_X10_136 (ci := 12) rfl (c_X10_seasonNow (z_El E) e5) dX10_season_6 e3 rfl rfl (by decide) (by decide) (by decide) (by decide) (Nat.zero_le _)) rfl rfl rfl ?_
  obtain rfl := Option.some.inj e
  exact z_iret E M dX10_season_9 rfl rfl rfl rfl (by decide) (by decide)
theorem c_X10_season {l : Launch} (hl : l.stackTraces = false) {h : PH} {a0 : Nat} {r : (Int32 × PH)} (e : f_X10_season h a0 = some r) : CMet l yX10_season (z_W yX10_season cX10_season 1 (some .int)) rmX10_season h [.ref a0] (.inr (some (.int r.1))) r.2 :=
  z_met hl Y_X10_season (by decide +kernel) (Nat.le_of_ble_eq_true rfl) (fun X hX E T0 M => b_X10_season E T0 e M)
abbrev rmX9_coins : Room := { frames := 0, cells := 0, slots := 0, locals := 0 }
noncomputable def f_X9_coins (h : PH) (a0 : Nat) : Option Int32 :=
  (rdR h a0 11 0).bind fun x1 =>
  (rdI h x1 9 14).bind fun x3 =>
  some x3
theorem b_X9_coins {X : PX} (E : z_E X cX9_coins RX9 "coins" 1 rmX9_coins (some .int)) (T0 : z_T0 X) {h : PH} {a0 : Nat} {r : Int32} (e : f_X9_coins h a0 = some r) (M : z_M X rmX9_coins.cells rmX9_coins.slots (.inr (some (.int r))) h) : WP X 1 0 0 0 [(0, .ref a0)] [] h := by
  unfold f_X9_coins at e
  refine z_aload_n E 0 dX9_coins_0 rfl ?_
  obtain ⟨x1, e2, e⟩ := ob e
  refine z_getR E fl_X9_12 dX9_coins_1 e2 ?_
  obtain ⟨x3, e4, e⟩ := ob e
  refine z_getI E fl_X9_191 dX9_coins_4 e4 ?_
  obtain rfl := Option.some.inj e
  exact z_iret E M dX9_coins_7 rfl rfl rfl rfl (by decide) (by decide)
theorem c_X9_coins {l : Launch} (hl : l.stackTraces = false) {h : PH} {a0 : Nat} {r : Int32} (e : f_X9_coins h a0 = some r) : CMet l yX9_coins (z_W yX9_coins cX9_coins 1 (some .int)) rmX9_coins h [.ref a0] (.inr (some (.int r))) h :=
  z_met hl Y_X9_coins (by decide +kernel) (Nat.le_of_ble_eq_true rfl) (fun X hX E T0 M => b_X9_coins E T0 e M)
abbrev rmX10_coins : Room := { frames := 0, cells := 0, slots := 0, locals := 0 }
noncomputable def f_X10_coins (h : PH) (a0 : Nat) : Option (Int32 × PH) :=
  (wr h a0 12 8 (.int (0 : Int32))).bind fun h1 =>
  (rdR h1 a0 12 0).bind fun x3 =>
  (alI .int h1 x3 (4 : Int32)).bind fun x5 =>
  some (x5, h1)
theorem b_X10_coins {X : PX} (E : z_E X cX10_coins RX10 "coins" 1 rmX10_coins (some .int)) (T0 : z_T0 X) {h : PH} {a0 : Nat} {r : (Int32 × PH)} (e : f_X10_coins h a0 = some r) (M : z_M X rmX10_coins.cells rmX10_coins.slots (.inr (some (.int r.1))) r.2) : WP X 1 0 0 0 [(0, .ref a0)] [] h := by
  unfold f_X10_coins at e
  refine z_aload_n E 0 dX10_coins_0 rfl ?_
  refine z_iconst E dX10_coins_1 ic_0 ?_
  obtain ⟨h1, e2, e⟩ := ob e
  refine z_putI E fp_X10_36 (Or.inl rfl) dX10_coins_2 e2 ?_
  refine z_aload_n E 0 dX10_coins_5 rfl ?_
  obtain ⟨x3, e4, e⟩ := ob e
  refine z_getR E fl_X10_7 dX10_coins_6 e4 ?_
  refine z_iconst E dX10_coins_9 ic_4 ?_
  obtain ⟨x5, e6, e⟩ := ob e
  refine z_iald E dX10_coins_10 e6 ?_
  obtain rfl := Option.some.inj e
  exact z_iret E M dX10_coins_11 rfl rfl rfl rfl (by decide) (by decide)
theorem c_X10_coins {l : Launch} (hl : l.stackTraces = false) {h : PH} {a0 : Nat} {r : (Int32 × PH)} (e : f_X10_coins h a0 = some r) : CMet l yX10_coins (z_W yX10_coins cX10_coins 1 (some .int)) rmX10_coins h [.ref a0] (.inr (some (.int r.1))) r.2 :=
  z_met hl Y_X10_coins (by decide +kernel) (Nat.le_of_ble_eq_true rfl) (fun X hX E T0 M => b_X10_coins E T0 e M)
