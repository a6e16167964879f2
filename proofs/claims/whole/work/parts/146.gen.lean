abbrev rmX10_catches : Room := { frames := 2, cells := 0, slots := 0, locals := 44 }
noncomputable def f_X10_catches_L4 : Nat → PH → Nat → Int32 → Int32 → Int32 → Option Int32
  | 0, _, _, _, _, _ => none
  | fu + 1, h, v0, v1, v2, v3 =>
    (rdR h v0 12 0).bind fun x1 =>
    (alI .int h x1 (0 : Int32)).bind fun x3 =>
    if x3 ≤ v3 then
      some v2
    else
      (gd h v0 12).bind fun _ =>
      (f_X10_of h v0 v3 (2 : Int32)).bind fun p7 =>
      if ¬ p7 = 0 then
        f_X10_catches_L4 fu h v0 v1 v2 (v3 + (1 : Int32))
      else
        (gd h v0 12).bind fun _ =>
        (f_X10_of h v0 v3 (0 : Int32)).bind fun p11 =>
        (gd h v0 12).bind fun _ =>
        (f_X10_isCovered h v0 v1 p11).bind fun p14 =>
        if p14 = false then
          f_X10_catches_L4 fu h v0 v1 v2 (v3 + (1 : Int32))
        else
          f_X10_catches_L4 fu h v0 v1 (v2 ||| (zshl (1 : Int32) v3)) (v3 + (1 : Int32))
theorem b_X10_catches_L4 {X : PX} (E : z_E X cX10_catches RX10 "catches" 6 rmX10_catches (some .int)) (T0 : z_T0 X) {k n : Nat} (hk : k + 0 ≤ rmX10_catches.cells) (hn : n + 0 ≤ rmX10_catches.slots) {s : Int32} : ∀ (fu : Nat) (h : PH) (v0 : Nat) (v1 : Int32) (v2 : Int32) (v3 : Int32) (e : f_X10_catches_L4 fu h v0 v1 v2 v3 = some s) (kk : WP X 6 k n 49 [(0, .ref v0), (1, .int v1), (2, .int s)] [] h), WP X 6 k n 4 [(0, .ref v0), (1, .int v1), (2, .int v2), (3, .int v3)] [] h := by
  intro fu
  induction fu with
  | zero => intro h v0 v1 v2 v3 e; exact absurd (show (none : Option Int32) = some s from e) (by intro z; cases z)
  | succ fu ih =>
    intro h v0 v1 v2 v3 e kk
    unfold f_X10_catches_L4 at e
    refine z_iload_n E 3 dX10_catches_4 rfl ?_
    refine z_aload_n E 0 dX10_catches_5 rfl ?_
    obtain ⟨x1, e2, e⟩ := ob e
    refine z_getR E fl_X10_7 dX10_catches_6 e2 ?_
    refine z_iconst E dX10_catches_9 ic_0 ?_
    obtain ⟨x3, e4, e⟩ := ob e
    refine z_iald E dX10_catches_10 e4 ?_
    rcases oi e with ⟨c5, e⟩ | ⟨c5, e⟩
    · refine z_icmp_geT (tgt := 49) E dX10_catches_11 rfl c5 ?_
      obtain rfl := Option.some.inj e
      exact z_sub [0, 1, 2] rfl kk
    · refine z_icmp_geF (tgt := 49) E dX10_catches_11 rfl c5 ?_
      refine z_aload_n E 0 dX10_catches_14 rfl ?_
      refine z_iload_n E 3 dX10_catches_15 rfl ?_
      refine z_iconst E dX10_catches_16 ic_2 ?_
      obtain ⟨_, e6, e⟩ := ob e
      obtain ⟨p7, e8, e⟩ := ob e
      refine z_kR2 (st := []) (av := [.ref v0, .int v3, .int (2 : Int32)]) E k n (z_rV (st := []) (av := [.int v3, .int (2 : Int32)]) E Y_X10_of k_X10_73 (ci := 12) rfl (c_X10_of (z_El E) e8) dX10_catches_17 e6 rfl rfl (by decide) (by decide) (zk (k := k) (a := 0) hk (by decide)) (zk (k := n) (a := 0) hn (by decide)) (Nat.zero_le _)) rfl rfl rfl ?_
      rcases oi e with ⟨c9, e⟩ | ⟨c9, e⟩
      · refine z_if_neT (tgt := 43) E dX10_catches_20 rfl c9 ?_
        refine z_iinc (v := (v3 + (1 : Int32))) (lv2 := [(3, .int (v3 + (1 : Int32))), (0, .ref v0), (1, .int v1), (2, .int v2)]) E 3 dX10_catches_43 rfl (congrArg (v3 + ·) ic_1) (by decide) rfl ?_
        refine z_goto (tgt := 4) E dX10_catches_46 rfl ?_
        exact z_sub [1, 2, 3, 0] rfl (ih _ _ _ _ _ e kk)
      · refine z_if_neF (tgt := 43) E dX10_catches_20 rfl (Classical.not_not.mp c9) ?_
        refine z_aload_n E 0 dX10_catches_23 rfl ?_
        refine z_iload_n E 1 dX10_catches_24 rfl ?_
        refine z_aload_n E 0 dX10_catches_25 rfl ?_
        refine z_iload_n E 3 dX10_catches_26 rfl ?_
        refine z_iconst E dX10_catches_27 ic_0 ?_
        obtain ⟨_, e10, e⟩ := ob e
        obtain ⟨p11, e12, e⟩ := ob e
        refine z_kR2 (st := [.int v1, .ref v0]) (av := [.ref v0, .int v3, .int (0 : Int32)]) E k n (z_rV (st := [.int v1, .ref v0]) (av := [.int v3, .int (0 : Int32)]) E Y_X10_of k_X10_73 (ci := 12) rfl (c_X10_of (z_El E) e12) dX10_catches_28 e10 rfl rfl (by decide) (by decide) (zk (k := k) (a := 0) hk (by decide)) (zk (k := n) (a := 0) hn (by decide)) (Nat.le_of_ble_eq_true rfl)) rfl rfl rfl ?_
        obtain ⟨_, e13, e⟩ := ob e
        obtain ⟨p14, e15, e⟩ := ob e
        refine z_kR2 (st := []) (av := [.ref v0, .int v1, .int p11]) E k n (z_rV (st := []) (av := [.int v1, .int p11]) E Y_X10_isCovered k_X10_154 (ci := 12) rfl (c_X10_isCovered (z_El E) e15) dX10_catches_31 e13 rfl rfl (by decide) (by decide) (zk (k := k) (a := 0) hk (by decide)) (zk (k := n) (a := 0) hn (by decide)) (Nat.zero_le _)) rfl rfl rfl ?_
        rcases oi e with ⟨c16, e⟩ | ⟨c16, e⟩
        · refine z_if_eqT (tgt := 43) E dX10_catches_34 rfl (zb_f c16) ?_
          refine z_iinc (v := (v3 + (1 : Int32))) (lv2 := [(3, .int (v3 + (1 : Int32))), (0, .ref v0), (1, .int v1), (2, .int v2)]) E 3 dX10_catches_43 rfl (congrArg (v3 + ·) ic_1) (by decide) rfl ?_
          refine z_goto (tgt := 4) E dX10_catches_46 rfl ?_
          exact z_sub [1, 2, 3, 0] rfl (ih _ _ _ _ _ e kk)
        · refine z_if_eqF (tgt := 43) E dX10_catches_34 rfl (zb_nf c16) ?_
          refine z_iload_n E 2 dX10_catches_37 rfl ?_
          refine z_iconst E dX10_catches_38 ic_1 ?_
          refine z_iload_n E 3 dX10_catches_39 rfl ?_
          refine z_ishl E dX10_catches_40 ?_
          refine z_ior E dX10_catches_41 ?_
          refine z_istore_n (lv2 := [(2, .int (v2 ||| (zshl (1 : Int32) v3))), (0, .ref v0), (1, .int v1), (3, .int v3)]) E dX10_catches_42 (by decide) rfl ?_
          refine z_iinc (v := (v3 + (1 : Int32))) (lv2 := [(3, .int (v3 + (1 : Int32))), (2, .int (v2 ||| (zshl (1 : Int32) v3))), (0, .ref v0), (1, .int v1)]) E 3 dX10_catches_43 rfl (congrArg (v3 + ·) ic_1) (by decide) rfl ?_
          refine z_goto (tgt := 4) E dX10_catches_46 rfl ?_
          exact z_sub [2, 3, 1, 0] rfl (ih _ _ _ _ _ e kk)
noncomputable def f_X10_catches_L54 : Nat → PH → Nat → Int32 → Int32 → Int32 → Int32 → Option Int32
  | 0, _, _, _, _, _, _ => none
  | fu + 1, h, v0, v1, v2, v3, v4 =>
    (rdR h v0 12 0).bind fun x1 =>
    (alI .int h x1 (0 : Int32)).bind fun x3 =>
    if x3 ≤ v4 then
      some v3
    else
      if ¬ ((zshr v2 v4) &&& (1 : Int32)) = (1 : Int32) then
        f_X10_catches_L54 fu h v0 v1 v2 v3 (v4 + (1 : Int32))
      else
        (gd h v0 12).bind fun _ =>
        (f_X10_of h v0 v4 (1 : Int32)).bind fun p8 =>
        (gd h v0 12).bind fun _ =>
        (f_X10_by h v0 v1 (2 : Int32)).bind fun p11 =>
        if p8 < p11 then
          f_X10_catches_L54 fu h v0 v1 v2 v3 (v4 + (1 : Int32))
        else
          f_X10_catches_L54 fu h v0 v1 v2 (v3 ||| (zshl (1 : Int32) v4)) (v4 + (1 : Int32))
theorem b_X10_catches_L54 {X : PX} (E : z_E X cX10_catches RX10 "catches" 6 rmX10_catches (some .int)) (T0 : z_T0 X) {k n : Nat} (hk : k + 0 ≤ rmX10_catches.cells) (hn : n + 0 ≤ rmX10_catches.slots) {s : Int32} : ∀ (fu : Nat) (h : PH) (v0 : Nat) (v1 : Int32) (v2 : Int32) (v3 : Int32) (v4 : Int32) (e : f_X10_catches_L54 fu h v0 v1 v2 v3 v4 = some s) (kk : WP X 6 k n 104 [(0, .ref v0), (2, .int v2), (3, .int s)] [] h), WP X 6 k n 54 [(0, .ref v0), (1, .int v1), (2, .int v2), (3, .int v3), (4, .int v4)] [] h := by
  intro fu
  induction fu with
  | zero => intro h v0 v1 v2 v3 v4 e; exact absurd (show (none : Option Int32) = some s from e) (by intro z; cases z)
  | succ fu ih =>
    intro h v0 v1 v2 v3 v4 e kk
    unfold f_X10_catches_L54 at e
    refine z_iload E 4 dX10_catches_54 rfl ?_
    refine z_aload_n E 0 dX10_catches_56 rfl ?_
    obtain ⟨x1, e2, e⟩ := ob e
    refine z_getR E fl_X10_7 dX10_catches_57 e2 ?_
    refine z_iconst E dX10_catches_60 ic_0 ?_
    obtain ⟨x3, e4, e⟩ := ob e
    refine z_iald E dX10_catches_61 e4 ?_
    rcases oi e with ⟨c5, e⟩ | ⟨c5, e⟩
    · refine z_icmp_geT (tgt := 104) E dX10_catches_62 rfl c5 ?_
      obtain rfl := Option.some.inj e
      exact z_sub [0, 2, 3] rfl kk
    · refine z_icmp_geF (tgt := 104) E dX10_catches_62 rfl c5 ?_
      refine z_iload_n E 2 dX10_catches_65 rfl ?_
      refine z_iload E 4 dX10_catches_66 rfl ?_
      refine z_ishr E dX10_catches_68 ?_
      refine z_iconst E dX10_catches_69 ic_1 ?_
      refine z_iand E dX10_catches_70 ?_
      refine z_iconst E dX10_catches_71 ic_1 ?_
      rcases oi e with ⟨c6, e⟩ | ⟨c6, e⟩
      · refine z_icmp_neT (tgt := 98) E dX10_catches_72 rfl c6 ?_
        refine z_iinc (v := (v4 + (1 : Int32))) (lv2 := [(4, .int (v4 + (1 : Int32))), (0, .ref v0), (1, .int v1), (2, .int v2), (3, .int v3)]) E 4 dX10_catches_98 rfl (congrArg (v4 + ·) ic_1) (by decide) rfl ?_
        refine z_goto (tgt := 54) E dX10_catches_101 rfl ?_
        exact z_sub [1, 2, 3, 4, 0] rfl (ih _ _ _ _ _ _ e kk)
      · refine z_icmp_neF (tgt := 98) E dX10_catches_72 rfl (Classical.not_not.mp c6) ?_
        refine z_aload_n E 0 dX10_catches_75 rfl ?_
        refine z_iload E 4 dX10_catches_76 rfl ?_
        refine z_iconst E dX10_catches_78 ic_1 ?_
        obtain ⟨_, e7, e⟩ := ob e
        obtain ⟨p8, e9, e⟩ := ob e
        refine z_kR2 (st := []) (av := [.ref v0, .int v4, .int (1 : Int32)]) E k n (z_rV (st := []) (av := [.int v4, .int (1 : Int32)]) E Y_X10_of k_X10_73 (ci := 12) rfl (c_X10_of (z_El E) e9) dX10_catches_79 e7 rfl rfl (by decide) (by decide) (zk (k := k) (a := 0) hk (by decide)) (zk (k := n) (a := 0) hn (by decide)) (Nat.zero_le _)) rfl rfl rfl ?_
        refine z_aload_n E 0 dX10_catches_82 rfl ?_
        refine z_iload_n E 1 dX10_catches_83 rfl ?_
        refine z_iconst E dX10_catches_84 ic_2 ?_
        obtain ⟨_, e10, e⟩ := ob e
        obtain ⟨p11, e12, e⟩ := ob e
        refine z_kR2 (st := [.int p8]) (av := [.ref v0, .int v1, .int (2 : Int32)]) E k n (z_rV (st := [.int p8]) (av := [.int v1, .int (2 : Int32)]) E Y_X10_by k_X10_151 (ci := 12) rfl (c_X10_by (z_El E) e12) dX10_catches_85 e10 rfl rfl (by decide) (by decide) (zk (k := k) (a := 0) hk (by decide)) (zk (k := n) (a := 0) hn (by decide)) (Nat.le_of_ble_eq_true rfl)) rfl rfl rfl ?_
        rcases oi e with ⟨c13, e⟩ | ⟨c13, e⟩
        · refine z_icmp_ltT (tgt := 98) E dX10_catches_88 rfl c13 ?_
          refine z_iinc (v := (v4 + (1 : Int32))) (lv2 := [(4, .int (v4 + (1 : Int32))), (0, .ref v0), (1, .int v1), (2, .int v2), (3, .int v3)]) E 4 dX10_catches_98 rfl (congrArg (v4 + ·) ic_1) (by decide) rfl ?_
          refine z_goto (tgt := 54) E dX10_catches_101 rfl ?_
          exact z_sub [1, 2, 3, 4, 0] rfl (ih _ _ _ _ _ _ e kk)
        · refine z_icmp_ltF (tgt := 98) E dX10_catches_88 rfl c13 ?_
          refine z_iload_n E 3 dX10_catches_91 rfl ?_
          refine z_iconst E dX10_catches_92 ic_1 ?_
          refine z_iload E 4 dX10_catches_93 rfl ?_
          refine z_ishl E dX10_catches_95 ?_
          refine z_ior E dX10_catches_96 ?_
          refine z_istore_n (lv2 := [(3, .int (v3 ||| (zshl (1 : Int32) v4))), (0, .ref v0), (1, .int v1), (2, .int v2), (4, .int v4)]) E dX10_catches_97 (by decide) rfl ?_
          refine z_iinc (v := (v4 + (1 : Int32))) (lv2 := [(4, .int (v4 + (1 : Int32))), (3, .int (v3 ||| (zshl (1 : Int32) v4))), (0, .ref v0), (1, .int v1), (2, .int v2)]) E 4 dX10_catches_98 rfl (congrArg (v4 + ·) ic_1) (by decide) rfl ?_
          refine z_goto (tgt := 54) E dX10_catches_101 rfl ?_
          exact z_sub [2, 3, 4, 1, 0] rfl (ih _ _ _ _ _ _ e kk)
noncomputable def f_X10_catches_L119 : Nat → PH → Nat → Int32 → Int32 → Int32 → Int32 → Option Int32
  | 0, _, _, _, _, _, _ => none
  | fu + 1, h, v0, v2, v3, v4, v5 =>
    (rdR h v0 12 0).bind fun x1 =>
    (alI .int h x1 (0 : Int32)).bind fun x3 =>
    if x3 ≤ v5 then
      some v3
    else
      if ¬ ((zshr v4 v5) &&& (1 : Int32)) = (1 : Int32) then
        f_X10_catches_L119 fu h v0 v2 v3 v4 (v5 + (1 : Int32))
      else
        (gd h v0 12).bind fun _ =>
        (f_X10_of h v0 v5 (3 : Int32)).bind fun p8 =>
        f_X10_catches_L119 fu h v0 v2 (v3 ||| (p8 &&& v2)) v4 (v5 + (1 : Int32))
theorem b_X10_catches_L119 {X : PX} (E : z_E X cX10_catches RX10 "catches" 6 rmX10_catches (some .int)) (T0 : z_T0 X) {k n : Nat} (hk : k + 0 ≤ rmX10_catches.cells) (hn : n + 0 ≤ rmX10_catches.slots) {s : Int32} : ∀ (fu : Nat) (h : PH) (v0 : Nat) (v2 : Int32) (v3 : Int32) (v4 : Int32) (v5 : Int32) (e : f_X10_catches_L119 fu h v0 v2 v3 v4 v5 = some s) (kk : WP X 6 k n 159 [(0, .ref v0), (2, .int v2), (3, .int s), (4, .int v4)] [] h), WP X 6 k n 119 [(0, .ref v0), (2, .int v2), (3, .int v3), (4, .int v4), (5, .int v5)] [] h := by
  intro fu
  induction fu with
  | zero => intro h v0 v2 v3 v4 v5 e; exact absurd (show (none : Option Int32) = some s from e) (by intro z; cases z)
  | succ fu ih =>
    intro h v0 v2 v3 v4 v5 e kk
    unfold f_X10_catches_L119 at e
    refine z_iload E 4 dX10_catches_119 rfl ?_
    refine z_aload_n E 0 dX10_catches_121 rfl ?_
    obtain ⟨x1, e2, e⟩ := ob e
    refine z_getR E fl_X10_7 dX10_catches_122 e2 ?_
    refine z_iconst E dX10_catches_125 ic_0 ?_
    obtain ⟨x3, e4, e⟩ := ob e
    refine z_iald E dX10_catches_126 e4 ?_
    rcases oi e with ⟨c5, e⟩ | ⟨c5, e⟩
    · refine z_icmp_geT (tgt := 159) E dX10_catches_127 rfl c5 ?_
      obtain rfl := Option.some.inj e
      exact z_sub [0, 1, 2, 3] rfl kk
    · refine z_icmp_geF (tgt := 159) E dX10_catches_127 rfl c5 ?_
      refine z_iload E 3 dX10_catches_130 rfl ?_
      refine z_iload E 4 dX10_catches_132 rfl ?_
      refine z_ishr E dX10_catches_134 ?_
      refine z_iconst E dX10_catches_135 ic_1 ?_
      refine z_iand E dX10_catches_136 ?_
      refine z_iconst E dX10_catches_137 ic_1 ?_
      rcases oi e with ⟨c6, e⟩ | ⟨c6, e⟩
      · refine z_icmp_neT (tgt := 153) E dX10_catches_138 rfl c6 ?_
        refine z_iinc (v := (v5 + (1 : Int32))) (lv2 := [(5, .int (v5 + (1 : Int32))), (0, .ref v0), (2, .int v2), (3, .int v3), (4, .int v4)]) E 4 dX10_catches_153 rfl (congrArg (v5 + ·) ic_1) (by decide) rfl ?_
        refine z_goto (tgt := 119) E dX10_catches_156 rfl ?_
        exact z_sub [1, 2, 3, 4, 0] rfl (ih _ _ _ _ _ _ e kk)
      · refine z_icmp_neF (tgt := 153) E dX10_catches_138 rfl (Classical.not_not.mp c6) ?_
        refine z_iload_n E 2 dX10_catches_141 rfl ?_
        refine z_aload_n E 0 dX10_catches_142 rfl ?_
        refine z_iload E 4 dX10_catches_143 rfl ?_
        refine z_iconst E dX10_catches_145 ic_3 ?_
        obtain ⟨_, e7, e⟩ := ob e
        obtain ⟨p8, e9, e⟩ := ob e
        refine z_kR2 (st := [.int v3]) (av := [.ref v0, .int v5, .int (3 : Int32)]) E k n (z_rV (st := [.int v3]) (av := [.int v5, .int (3 : Int32)]) E Y_X10_of k_X10_73 (ci := 12) rfl (c_X10_of (z_El E) e9) dX10_catches_146 e7 rfl rfl (by decide) (by decide) (zk (k := k) (a := 0) hk (by decide)) (zk (k := n) (a := 0) hn (by decide)) (Nat.le_of_ble_eq_true rfl)) rfl rfl rfl ?_
        refine z_iload_n E 1 dX10_catches_149 rfl ?_
        refine z_iand E dX10_catches_150 ?_
        refine z_ior E dX10_catches_151 ?_
        refine z_istore_n (lv2 := [(3, .int (v3 ||| (p8 &&& v2))), (0, .ref v0), (2, .int v2), (4, .int v4), (5, .int v5)]) E dX10_catches_152 (by decide) rfl ?_
        refine z_iinc (v := (v5 + (1 : Int32))) (lv2 := [(5, .int (v5 + (1 : Int32))), (3, .int (v3 ||| (p8 &&& v2))), (0, .ref v0), (2, .int v2), (4, .int v4)]) E 4 dX10_catches_153 rfl (congrArg (v5 + ·) ic_1) (by decide) rfl ?_
        refine z_goto (tgt := 119) E dX10_catches_156 rfl ?_
        exact z_sub [2, 3, 1, 4, 0] rfl (ih _ _ _ _ _ _ e kk)
noncomputable def f_X10_catches_L107 : Nat → PH → Nat → Int32 → Int32 → Int32 → Option Int32
  | 0, _, _, _, _, _ => none
  | fu + 1, h, v0, v2, v3, v4 =>
    if v3 = v4 then
      some v3
    else
      (f_X10_catches_L119 FV h v0 v2 v3 v3 (0 : Int32)).bind fun s2 =>
      f_X10_catches_L107 fu h v0 v2 s2 v3
theorem b_X10_catches_L107 {X : PX} (E : z_E X cX10_catches RX10 "catches" 6 rmX10_catches (some .int)) (T0 : z_T0 X) {k n : Nat} (hk : k + 0 ≤ rmX10_catches.cells) (hn : n + 0 ≤ rmX10_catches.slots) {s : Int32} : ∀ (fu : Nat) (h : PH) (v0 : Nat) (v2 : Int32) (v3 : Int32) (v4 : Int32) (e : f_X10_catches_L107 fu h v0 v2 v3 v4 = some s) (kk : WP X 6 k n 162 [(3, .int s)] [] h), WP X 6 k n 107 [(0, .ref v0), (2, .int v2), (3, .int v3), (4, .int v4)] [] h := by
  intro fu
  induction fu with
  | zero => intro h v0 v2 v3 v4 e; exact absurd (show (none : Option Int32) = some s from e) (by intro z; cases z)
  | succ fu ih =>
    intro h v0 v2 v3 v4 e kk
    unfold f_X10_catches_L107 at e
    refine z_iload_n E 2 dX10_catches_107 rfl ?_
    refine z_iload E 3 dX10_catches_108 rfl ?_
    rcases oi e with ⟨c1, e⟩ | ⟨c1, e⟩
    · refine z_icmp_eqT (tgt := 162) E dX10_catches_110 rfl c1 ?_
      obtain rfl := Option.some.inj e
      exact z_sub [2] rfl kk
    · refine z_icmp_eqF (tgt := 162) E dX10_catches_110 rfl c1 ?_
      refine z_iload_n E 2 dX10_catches_113 rfl ?_
      refine z_istore (lv2 := [(4, .int v3), (0, .ref v0), (2, .int v2), (3, .int v3)]) E dX10_catches_114 (by decide) rfl ?_
      refine z_iconst E dX10_catches_116 ic_0 ?_
      refine z_istore (lv2 := [(5, .int (0 : Int32)), (4, .int v3), (0, .ref v0), (2, .int v2), (3, .int v3)]) E dX10_catches_117 (by decide) rfl ?_
      obtain ⟨s2, e3, e⟩ := ob e
      refine z_sub [2, 3, 4, 1, 0] rfl (b_X10_catches_L119 E T0 (zk (k := k) (a := 0) hk (by decide)) (zk (k := n) (a := 0) hn (by decide)) FV _ _ _ _ _ _ e3 ?_)
      refine z_goto (tgt := 107) E dX10_catches_159 rfl ?_
      exact z_sub [0, 1, 2, 3] rfl (ih _ _ _ _ _ e kk)
noncomputable def f_X10_catches (h : PH) (a0 : Nat) (a1 : Int32) : Option Int32 :=
  (f_X10_catches_L4 FV h a0 a1 (0 : Int32) (0 : Int32)).bind fun s1 =>
  (f_X10_catches_L54 FV h a0 a1 s1 (0 : Int32) (0 : Int32)).bind fun s3 =>
  (f_X10_catches_L107 FV h a0 s1 s3 (-1 : Int32)).bind fun s5 =>
  some s5
theorem b_X10_catches {X : PX} (E : z_E X cX10_catches RX10 "catches" 6 rmX10_catches (some .int)) (T0 : z_T0 X) {h : PH} {a0 : Nat} {a1 : Int32} {r : Int32} (e : f_X10_catches h a0 a1 = some r) (M : z_M X rmX10_catches.cells rmX10_catches.slots (.inr (some (.int r))) h) : WP X 6 0 0 0 [(0, .ref a0), (1, .int a1)] [] h := by
  unfold f_X10_catches at e
  refine z_iconst E dX10_catches_0 ic_0 ?_
  refine z_istore_n (lv2 := [(2, .int (0 : Int32)), (0, .ref a0), (1, .int a1)]) E dX10_catches_1 (by decide) rfl ?_
  refine z_iconst E dX10_catches_2 ic_0 ?_
  refine z_istore_n (lv2 := [(3, .int (0 : Int32)), (2, .int (0 : Int32)), (0, .ref a0), (1, .int a1)]) E dX10_catches_3 (by decide) rfl ?_
  obtain ⟨s1, e2, e⟩ := ob e
  refine z_sub [2, 3, 1, 0] rfl (b_X10_catches_L4 E T0 (by decide) (by decide) FV _ _ _ _ _ e2 ?_)
  refine z_iconst E dX10_catches_49 ic_0 ?_
  refine z_istore_n (lv2 := [(3, .int (0 : Int32)), (0, .ref a0), (1, .int a1), (2, .int s1)]) E dX10_catches_50 (by decide) rfl ?_
  refine z_iconst E dX10_catches_51 ic_0 ?_
  refine z_istore (lv2 := [(4, .int (0 : Int32)), (3, .int (0 : Int32)), (0, .ref a0), (1, .int a1), (2, .int s1)]) E dX10_catches_52 (by decide) rfl ?_
  obtain ⟨s3, e4, e⟩ := ob e
  refine z_sub [2, 3, 4, 1, 0] rfl (b_X10_catches_L54 E T0 (by decide) (by decide) FV _ _ _ _ _ _ e4 ?_)
  refine z_iconst E dX10_catches_104 ic_m1 ?_
  refine z_istore (lv2 := [(4, .int (-1 : Int32)), (0, .ref a0), (2, .int s1), (3, .int s3)]) E dX10_catches_105 (by decide) rfl ?_
  obtain ⟨s5, e6, e⟩ := ob e
  refine z_sub [1, 2, 3, 0] rfl (b_X10_catches_L107 E T0 (by decide) (by decide) FV _ _ _ _ _ e6 ?_)
  refine z_iload_n E 0 dX10_catches_162 rfl ?_
  obtain rfl := Option.some.inj e
  exact z_iret E M dX10_catches_163 rfl rfl rfl rfl (by decide) (by decide)
theorem c_X10_catches {l : Launch} (hl : l.stackTraces = false) {h : PH} {a0 : Nat} {a1 : Int32} {r : Int32} (e : f_X10_catches h a0 a1 = some r) : CMet l yX10_catches (z_W yX10_catches cX10_catches 6 (some .int)) rmX10_catches h [.ref a0, .int a1] (.inr (some (.int r))) h :=
  z_met hl Y_X10_catches (by decide +kernel) (Nat.le_of_ble_eq_true rfl) (fun X hX E T0 M => b_X10_catches E T0 e M)
abbrev rmX10_haul : Room := { frames := 3, cells := 0, slots := 0, locals := 69 }
noncomputable def f_X10_haul_L89 : Nat → PH → Nat → Int32 → Int32 → Option PH
  | 0, _, _, _, _ => none
  | fu + 1, h, v0, v2, v3 =>
    (rdR h v0 12 0).bind fun x1 =>
    (alI .int h x1 (0 : Int32)).bind fun x3 =>
    if x3 ≤ v3 then
      some h
    else
      if ¬ ((zshr v2 v3) &&& (1 : Int32)) = (1 : Int32) then
        f_X10_haul_L89 fu h v0 v2 (v3 + (1 : Int32))
      else
        (gd h v0 12).bind fun _ =>
        (f_X10_lays h v0 v3 (2 : Int32) (1 : Int32)).bind fun p8 =>
        f_X10_haul_L89 fu p8 v0 v2 (v3 + (1 : Int32))
theorem b_X10_haul_L89 {X : PX} (E : z_E X cX10_haul RX10 "haul" 4 rmX10_haul (some .int)) (T0 : z_T0 X) {k n : Nat} (hk : k + 0 ≤ rmX10_haul.cells) (hn : n + 0 ≤ rmX10_haul.slots) {s : PH} : ∀ (fu : Nat) (h : PH) (v0 : Nat) (v2 : Int32) (v3 : Int32) (e : f_X10_haul_L89 fu h v0 v2 v3 = some s) (kk : WP X 4 k n 121 [(0, .ref v0), (2, .int v2)] [] s), WP X 4 k n 89 [(0, .ref v0), (2, .int v2), (3, .int v3)] [] h := by
  intro fu
  induction fu with
  | zero => intro h v0 v2 v3 e; exact absurd (show (none : Option PH) = some s from e) (by intro z; cases z)
  | succ fu ih =>
    intro h v0 v2 v3 e kk
    unfold f_X10_haul_L89 at e
    refine z_iload_n E 2 dX10_haul_89 rfl ?_
    refine z_aload_n E 0 dX10_haul_90 rfl ?_
    obtain ⟨x1, e2, e⟩ := ob e
    refine z_getR E fl_X10_7 dX10_haul_91 e2 ?_
    refine z_iconst E dX10_haul_94 ic_0 ?_
    obtain ⟨x3, e4, e⟩ := ob e
    refine z_iald E dX10_haul_95 e4 ?_
    rcases oi e with ⟨c5, e⟩ | ⟨c5, e⟩
    · refine z_icmp_geT (tgt := 121) E dX10_haul_96 rfl c5 ?_
      obtain rfl := Option.some.inj e
      exact z_sub [0, 1] rfl kk
    · refine z_icmp_geF (tgt := 121) E dX10_haul_96 rfl c5 ?_
      refine z_iload_n E 1 dX10_haul_99 rfl ?_
      refine z_iload_n E 2 dX10_haul_100 rfl ?_
      refine z_ishr E dX10_haul_101 ?_
      refine z_iconst E dX10_haul_102 ic_1 ?_
      refine z_iand E dX10_haul_103 ?_
      refine z_iconst E dX10_haul_104 ic_1 ?_
      rcases oi e with ⟨c6, e⟩ | ⟨c6, e⟩
      · refine z_icmp_neT (tgt := 115) E dX10_haul_105 rfl c6 ?_
        refine z_iinc (v := (v3 + (1 : Int32))) (lv2 := [(3, .int (v3 + (1 : Int32))), (0, .ref v0), (2, .int v2)]) E 2 dX10_haul_115 rfl (congrArg (v3 + ·) ic_1) (by decide) rfl ?_
        refine z_goto (tgt := 89) E dX10_haul_118 rfl ?_
        exact z_sub [1, 2, 0] rfl (ih _ _ _ _ e kk)
      · refine z_icmp_neF (tgt := 115) E dX10_haul_105 rfl (Classical.not_not.mp c6) ?_
        refine z_aload_n E 0 dX10_haul_108 rfl ?_
        refine z_iload_n E 2 dX10_haul_109 rfl ?_
        refine z_iconst E dX10_haul_110 ic_2 ?_
        refine z_iconst E dX10_haul_111 ic_1 ?_
        obtain ⟨_, e7, e⟩ := ob e
        obtain ⟨p8, e9, e⟩ := ob e
        refine z_kV2 (st := []) (av := [.ref v0, .int v3, .int (2 : Int32), .int (1 : Int32)]) E k n (z_rV (st := []) (av := [.int v3, .int (2 : Int32), .int (1 : Int32)]) E Y_X10_lays k_X10_88 (ci := 12) rfl (c_X10_lays (z_El E) e9) dX10_haul_112 e7 rfl rfl (by decide) (by decide) (zk (k := k) (a := 0) hk (by decide)) (zk (k := n) (a := 0) hn (by decide)) (Nat.zero_le _)) rfl rfl rfl ?_
        refine z_iinc (v := (v3 + (1 : Int32))) (lv2 := [(3, .int (v3 + (1 : Int32))), (0, .ref v0), (2, .int v2)]) E 2 dX10_haul_115 rfl (congrArg (v3 + ·) ic_1) (by decide) rfl ?_
        refine z_goto (tgt := 89) E dX10_haul_118 rfl ?_
        exact z_sub [1, 2, 0] rfl (ih _ _ _ _ e kk)
noncomputable def f_X10_haul_J73 (h : PH) (v0 : Nat) (v1 : Int32) : Option (Int32 × PH) :=
  (gd h v0 12).bind fun _ =>
  (f_X10_catches h v0 v1).bind fun p2 =>
  (rdR h v0 12 0).bind fun x4 =>
  (gd h v0 12).bind fun _ =>
  (f_X10_keeps h v0 x4).bind fun p7 =>
  (f_X10_haul_L89 FV p7 v0 p2 (0 : Int32)).bind fun s9 =>
  (rdR s9 v0 12 0).bind fun x11 =>
  (alI .int s9 x11 (5 : Int32)).bind fun x13 =>
  (f_X10_bits p2).bind fun p15 =>
  (asI .int s9 x11 (5 : Int32) (x13 + p15)).bind fun h17 =>
  (f_X10_bits p2).bind fun p19 =>
  some (p19, h17)
theorem b_X10_haul_J73 {X : PX} (E : z_E X cX10_haul RX10 "haul" 4 rmX10_haul (some .int)) (T0 : z_T0 X) {k n : Nat} (hk : k + 0 ≤ rmX10_haul.cells) (hn : n + 0 ≤ rmX10_haul.slots) {h : PH} {v0 : Nat} {v1 : Int32} {r : (Int32 × PH)} (e : f_X10_haul_J73 h v0 v1 = some r) (M : z_M X rmX10_haul.cells rmX10_haul.slots (.inr (some (.int r.1))) r.2) : WP X 4 k n 73 [(0, .ref v0), (1, .int v1)] [] h := by
  unfold f_X10_haul_J73 at e
  refine z_aload_n E 0 dX10_haul_73 rfl ?_
  refine z_iload_n E 1 dX10_haul_74 rfl ?_
  obtain ⟨_, e1, e⟩ := ob e
  obtain ⟨p2, e3, e⟩ := ob e
  refine z_kR2 (st := []) (av := [.ref v0, .int v1]) E k n (z_rV (st := []) (av := [.int v1]) E Y_X10_catches k_X10_157 (ci := 12) rfl (c_X10_catches (z_El E) e3) dX10_haul_75 e1 rfl rfl (by decide) (by decide) (zk (k := k) (a := 0) hk (by decide)) (zk (k := n) (a := 0) hn (by decide)) (Nat.zero_le _)) rfl rfl rfl ?_
  refine z_istore_n (lv2 := [(2, .int p2), (0, .ref v0), (1, .int v1)]) E dX10_haul_78 (by decide) rfl ?_
  refine z_aload_n E 1 dX10_haul_79 rfl ?_
  refine z_aload_n E 1 dX10_haul_80 rfl ?_
  obtain ⟨x4, e5, e⟩ := ob e
  refine z_getR E fl_X10_7 dX10_haul_81 e5 ?_
  obtain ⟨_, e6, e⟩ := ob e
  obtain ⟨p7, e8, e⟩ := ob e
  refine z_kV2 (st := []) (av := [.ref v0, .ref x4]) E k n (z_rV (st := []) (av := [.ref x4]) E Y_X10_keeps k_X10_84 (ci := 12) rfl (c_X10_keeps (z_El E) e8) dX10_haul_84 e6 rfl rfl (by decide) (by decide) (zk (k := k) (a := 0) hk (by decide)) (zk (k := n) (a := 0) hn (by decide)) (Nat.zero_le _)) rfl rfl rfl ?_
  refine z_iconst E dX10_haul_87 ic_0 ?_
  refine z_istore_n (lv2 := [(3, .int (0 : Int32)), (2, .int p2), (0, .ref v0), (1, .int v1)]) E dX10_haul_88 (by decide) rfl ?_
  obtain ⟨s9, e10, e⟩ := ob e
  refine z_sub [2, 1, 0] rfl (b_X10_haul_L89 E T0 (zk (k := k) (a := 0) hk (by decide)) (zk (k := n) (a := 0) hn (by decide)) FV _ _ _ _ e10 ?_)
  refine z_aload_n E 0 dX10_haul_121 rfl ?_
  obtain ⟨x11, e12, e⟩ := ob e
  refine z_getR E fl_X10_7 dX10_haul_122 e12 ?_
  refine z_iconst E dX10_haul_125 ic_5 ?_
  refine z_dup2 E dX10_haul_126 rfl rfl ?_
  obtain ⟨x13, e14, e⟩ := ob e
  refine z_iald E dX10_haul_127 e14 ?_
  refine z_iload_n E 1 dX10_haul_128 rfl ?_
  obtain ⟨p15, e16, e⟩ := ob e
  refine z_kR2 (st := [.int x13, .int (5 : Int32), .ref x11]) (av := [.int p2]) E k n (z_rS (st := [.int x13, .int (5 : Int32), .ref x11]) (av := [.int p2]) E Y_X10_bits k_X10_99 (c_X10_bits (z_El E) e16) dX10_haul_129 rfl rfl (by decide) (by decide) (zk (k := k) (a := 0) hk (by decide)) (zk (k := n) (a := 0) hn (by decide)) (Nat.le_of_ble_eq_true rfl)) rfl rfl rfl ?_
  refine z_iadd E dX10_haul_132 ?_
  obtain ⟨h17, e18, e⟩ := ob e
  refine z_iast E dX10_haul_133 e18 ?_
  refine z_iload_n E 1 dX10_haul_134 rfl ?_
  obtain ⟨p19, e20, e⟩ := ob e
  refine z_kR2 (st := []) (av := [.int p2]) E k n (z_rS (st := []) (av := [.int p2]) E Y_X10_bits k_X10_99 (c_X10_bits (z_El E) e20) dX10_haul_135 rfl rfl (by decide) (by decide) (zk (k := k) (a := 0) hk (by decide)) (zk (k := n) (a := 0) hn (by decide)) (Nat.zero_le _)) rfl rfl rfl ?_
  obtain rfl := Option.some.inj e
  exact z_iret E M dX10_haul_138 rfl rfl rfl rfl (zk (k := k) (a := 0) hk (by decide)) (zk (k := n) (a := 0) hn (by decide))
noncomputable def f_X10_haul_J14 (h : PH) (v0 : Nat) (v1 : Int32) (w0 : Int32) (w1 : Nat) : Option (Int32 × PH) :=
  (gd h w1 12).bind fun _ =>
  (f_X10_fails h w1 w0).bind fun p2 =>
  if p2.1 = false then
    (rdR p2.2 v0 12 0).bind fun x5 =>
    (alI .int p2.2 x5 (3 : Int32)).bind fun x7 =>
    if ¬ x7 = 0 then
      (gd p2.2 v0 12).bind fun _ =>
      (f_X10_seasonNow p2.2 v0).bind fun p11 =>
      if ¬ p11 = 0 then
        f_X10_haul_J73 p2.2 v0 v1
      else
        (gd p2.2 v0 12).bind fun _ =>
        (f_X10_by p2.2 v0 v1 (2 : Int32)).bind fun p15 =>
        if (10 : Int32) ≤ p15 then
          f_X10_haul_J73 p2.2 v0 v1
        else
          (gd p2.2 v0 12).bind fun _ =>
          (f_X10_by p2.2 v0 v1 (2 : Int32)).bind fun p19 =>
          (gd p2.2 v0 12).bind fun _ =>
          (f_X10_denies p2.2 v0 (2 : Int32) (3 : Int32) p19).bind fun p22 =>
          some (p22.1, p22.2)
    else
      (gd p2.2 v0 12).bind fun _ =>
      (f_X10_seasonNow p2.2 v0).bind fun p25 =>
      (gd p2.2 v0 12).bind fun _ =>
      (f_X10_denies p2.2 v0 (2 : Int32) (2 : Int32) p25).bind fun p28 =>
      some (p28.1, p28.2)
  else
    some ((0 : Int32), p2.2)
theorem b_X10_haul_J14 {X : PX} (E : z_E X cX10_haul RX10 "haul" 4 rmX10_haul (some .int)) (T0 : z_T0 X) {k n : Nat} (hk : k + 0 ≤ rmX10_haul.cells) (hn : n + 0 ≤ rmX10_haul.slots) {h : PH} {v0 : Nat} {v1 : Int32} {w0 : Int32} {w1 : Nat} {r : (Int32 × PH)} (e : f_X10_haul_J14 h v0 v1 w0 w1 = some r) (M : z_M X rmX10_haul.cells rmX10_haul.slots (.inr (some (.int r.1))) r.2) : WP X 4 k n 14 [(0, .ref v0), (1, .int v1)] [.int w0, .ref w1] h := by
  unfold f_X10_haul_J14 at e
  obtain ⟨_, e1, e⟩ := ob e
  obtain ⟨p2, e3, e⟩ := ob e
  refine z_kR2 (st := []) (av := [.ref w1, .int w0]) E k n (z_rV (st := []) (av := [.int w0]) E Y_X10_fails k_X10_70 (ci := 12) rfl (c_X10_fails (z_El E) e3) dX10_haul_14 e1 rfl rfl (by decide) (by decide) (zk (k := k) (a := 0) hk (by decide)) (zk (k := n) (a := 0) hn (by decide)) (Nat.zero_le _)) rfl rfl rfl ?_
  rcases oi e with ⟨c4, e⟩ | ⟨c4, e⟩
  · refine z_if_eqT (tgt := 22) E dX10_haul_17 rfl (zb_f c4) ?_
    refine z_aload_n E 0 dX10_haul_22 rfl ?_
    obtain ⟨x5, e6, e⟩ := ob e
    refine z_getR E fl_X10_7 dX10_haul_23 e6 ?_
    refine z_iconst E dX10_haul_26 ic_3 ?_
    obtain ⟨x7, e8, e⟩ := ob e
    refine z_iald E dX10_haul_27 e8 ?_
    rcases oi e with ⟨c9, e⟩ | ⟨c9, e⟩
    · refine z_if_neT (tgt := 42) E dX10_haul_28 rfl c9 ?_
      refine z_aload_n E 0 dX10_haul_42 rfl ?_
      obtain ⟨_, e10, e⟩ := ob e
      obtain ⟨p11, e12, e⟩ := ob e
      refine z_kR2 (st := []) (av := [.ref v0]) E k n (z_rV (st := []) (av := []) E Y_X10_seasonNow k_X10_136 (ci := 12) rfl (c_X10_seasonNow (z_El E) e12) dX10_haul_43 e10 rfl rfl (by decide) (by decide) (zk (k := k) (a := 0) hk (by decide)) (zk (k := n) (a := 0) hn (by decide)) (Nat.zero_le _)) rfl rfl rfl ?_
      rcases oi e with ⟨c13, e⟩ | ⟨c13, e⟩
      · refine z_if_neT (tgt := 73) E dX10_haul_46 rfl c13 ?_
        exact z_sub [0, 1] rfl (b_X10_haul_J73 E T0 (zk (k := k) (a := 0) hk (by decide)) (zk (k := n) (a := 0) hn (by decide)) e M)
      · refine z_if_neF (tgt := 73) E dX10_haul_46 rfl (Classical.not_not.mp c13) ?_
        refine z_aload_n E 0 dX10_haul_49 rfl ?_
        refine z_iload_n E 1 dX10_haul_50 rfl ?_
        refine z_iconst E dX10_haul_51 ic_2 ?_
        obtain ⟨_, e14, e⟩ := ob e
        obtain ⟨p15, e16, e⟩ := ob e
        refine z_kR2 (st := []) (av := [.ref v0, .int v1, .int (2 : Int32)]) E k n (z_rV (st := []) (av := [.int v1, .int (2 : Int32)]) E Y_X10_by k_X10_151 (ci := 12) rfl (c_X10_by (z_El E) e16) dX10_haul_52 e14 rfl rfl (by decide) (by decide) (zk (k := k) (a := 0) hk (by decide)) (zk (k := n) (a := 0) hn (by decide)) (Nat.zero_le _)) rfl rfl rfl ?_
        refine z_bipush E dX10_haul_55 bp_10 ?_
        rcases oi e with ⟨c17, e⟩ | ⟨c17, e⟩
        · refine z_icmp_geT (tgt := 73) E dX10_haul_57 rfl c17 ?_
          exact z_sub [0, 1] rfl (b_X10_haul_J73 E T0 (zk (k := k) (a := 0) hk (by decide)) (zk (k := n) (a := 0) hn (by decide)) e M)
        · refine z_icmp_geF (tgt := 73) E dX10_haul_57 rfl c17 ?_
          refine z_aload_n E 0 dX10_haul_60 rfl ?_
          refine z_iconst E dX10_haul_61 ic_2 ?_
          refine z_iconst E dX10_haul_62 ic_3 ?_
          refine z_aload_n E 0 dX10_haul_63 rfl ?_
          refine z_iload_n E 1 dX10_haul_64 rfl ?_
          refine z_iconst E dX10_haul_65 ic_2 ?_
          obtain ⟨_, e18, e⟩ := ob e
          obtain ⟨p19, e20, e⟩ := ob e
          refine z_kR2 (st := [.int (3 : Int32), .int (2 : Int32), .ref v0]) (av := [.ref v0, .int v1, .int (2 : Int32)]) E k n (z_rV (st := [.int (3 : Int32), .int (2 : Int32), .ref v0]) (av := [.int v1, .int (2 : Int32)]) E Y_X10_by k_X10_151 (ci := 12) rfl (c_X10_by (z_El E) e20) dX10_haul_66 e18 rfl rfl (by decide) (by decide) (zk (k := k) (a := 0) hk (by decide)) (zk (k := n) (a := 0) hn (by decide)) (Nat.le_of_ble_eq_true rfl)) rfl rfl rfl ?_
          obtain ⟨_, e21, e⟩ := ob e
          obtain ⟨p22, e23, e⟩ := ob e
          refine z_kR2 (st := []) (av := [.ref v0, .int (2 : Int32), .int (3 : Int32), .int p19]) E k n (z_rV (st := []) (av := [.int (2 : Int32), .int (3 : Int32), .int p19]) E Y_X10_denies k_X10_80 (ci := 12) rfl (c_X10_denies (z_El E) e23) dX10_haul_69 e21 rfl rfl (by decide) (by decide) (zk (k := k) (a := 0) hk (by decide)) (zk (k := n) (a := 0) hn (by decide)) (Nat.zero_le _)) rfl rfl rfl ?_
          obtain rfl := Option.some.inj e
          exact z_iret E M dX10_haul_72 rfl rfl rfl rfl (zk (k := k) (a := 0) hk (by decide)) (zk (k := n) (a := 0) hn (by decide))
    · refine z_if_neF (tgt := 42) E dX10_haul_28 rfl (Classical.not_not.mp c9) ?_
      refine z_aload_n E 0 dX10_haul_31 rfl ?_
      refine z_iconst E dX10_haul_32 ic_2 ?_
      refine z_iconst E dX10_haul_33 ic_2 ?_
      refine z_aload_n E 0 dX10_haul_34 rfl ?_
      obtain ⟨_, e24, e⟩ := ob e
      obtain ⟨p25, e26, e⟩ := ob e
      refine z_kR2 (st := [.int (2 : Int32), .int (2 : Int32), .ref v0]) (av := [.ref v0]) E k n (z_rV (st := [.int (2 : Int32), .int (2 : Int32), .ref v0]) (av := []) E Y_X10_seasonNow k_X10_136 (ci := 12) rfl (c_X10_seasonNow (z_El E) e26) dX10_haul_35 e24 rfl rfl (by decide) (by decide) (zk (k := k) (a := 0) hk (by decide)) (zk (k := n) (a := 0) hn (by decide)) (Nat.le_of_ble_eq_true rfl)) rfl rfl rfl ?_
      obtain ⟨_, e27, e⟩ := ob e
      obtain ⟨p28, e29, e⟩ := ob e
      refine z_kR2 (st := []) (av := [.ref v0, .int (2 : Int32), .int (2 : Int32), .int p25]) E k n (z_rV (st := []) (av := [.int (2 : Int32), .int (2 : Int32), .int p25]) E Y_X10_denies k_X10_80 (ci := 12) rfl (c_X10_denies (z_El E) e29) dX10_haul_38 e27 rfl rfl (by decide) (by decide) (zk (k := k) (a := 0) hk (by decide)) (zk (k := n) (a := 0) hn (by decide)) (Nat.zero_le _)) rfl rfl rfl ?_
      obtain rfl := Option.some.inj e
      exact z_iret E M dX10_haul_41 rfl rfl rfl rfl (zk (k := k) (a := 0) hk (by decide)) (zk (k := n) (a := 0) hn (by decide))
  · refine z_if_eqF (tgt := 22) E dX10_haul_17 rfl (zb_nf c4) ?_
    refine z_iconst E dX10_haul_20 ic_0 ?_
    obtain rfl := Option.some.inj e
    exact z_iret E M dX10_haul_21 rfl rfl rfl rfl (zk (k := k) (a := 0) hk (by decide)) (zk (k := n) (a := 0) hn (by decide))
noncomputable def f_X10_haul (h : PH) (a0 : Nat) (a1 : Int32) : Option (Int32 × PH) :=
  (gd h a0 12).bind fun _ =>
  (f_X10_isNet h a0 a1).bind fun p2 =>
  if p2 = false then
    f_X10_haul_J14 h a0 a1 (1 : Int32) a0
  else
    f_X10_haul_J14 h a0 a1 (0 : Int32) a0
theorem b_X10_haul {X : PX} (E : z_E X cX10_haul RX10 "haul" 4 rmX10_haul (some .int)) (T0 : z_T0 X) {h : PH} {a0 : Nat} {a1 : Int32} {r : (Int32 × PH)} (e : f_X10_haul h a0 a1 = some r) (M : z_M X rmX10_haul.cells rmX10_haul.slots (.inr (some (.int r.1))) r.2) : WP X 4 0 0 0 [(0, .ref a0), (1, .int a1)] [] h := by
  unfold f_X10_haul at e
  refine z_aload_n E 0 dX10_haul_0 rfl ?_
  refine z_aload_n E 0 dX10_haul_1 rfl ?_
  refine z_iload_n E 1 dX10_haul_2 rfl ?_
  obtain ⟨_, e1, e⟩ := ob e
  obtain ⟨p2, e3, e⟩ := ob e
  refine z_kR2 (st := [.ref a0]) (av := [.ref a0, .int a1]) E 0 0 (z_rV (st := [.ref a0]) (av := [.int a1]) E Y_X10_isNet k_X10_148 (ci := 12) rfl (c_X10_isNet (z_El E) e3) dX10_haul_3 e1 rfl rfl (by decide) (by decide) (by decide) (by decide) (Nat.le_of_ble_eq_true rfl)) rfl rfl rfl ?_
  rcases oi e with ⟨c4, e⟩ | ⟨c4, e⟩
  · refine z_if_eqT (tgt := 13) E dX10_haul_6 rfl (zb_f c4) ?_
    refine z_iconst E dX10_haul_13 ic_1 ?_
    exact z_sub [0, 1] rfl (b_X10_haul_J14 E T0 (by decide) (by decide) e M)
  · refine z_if_eqF (tgt := 13) E dX10_haul_6 rfl (zb_nf c4) ?_
    refine z_iconst E dX10_haul_9 ic_0 ?_
    refine z_goto (tgt := 14) E dX10_haul_10 rfl ?_
    exact z_sub [0, 1] rfl (b_X10_haul_J14 E T0 (by decide) (by decide) e M)
theorem c_X10_haul {l : Launch} (hl : l.stackTraces = false) {h : PH} {a0 : Nat} {a1 : Int32} {r : (Int32 × PH)} (e : f_X10_haul h a0 a1 = some r) : CMet l yX10_haul (z_W yX10_haul cX10_haul 4 (some .int)) rmX10_haul h [.ref a0, .int a1] (.inr (some (.int r.1))) r.2 :=
  z_met hl Y_X10_haul (by decide +kernel) (Nat.le_of_ble_eq_true rfl) (fun X hX E T0 M => b_X10_haul E T0 e M)
abbrev rmX9_netCount : Room := { frames := 0, cells := 0, slots := 0, locals := 0 }
noncomputable def f_X9_netCount (h : PH) (a0 : Nat) : Option Int32 :=
  (rdR h a0 11 0).bind fun x1 =>
  (rdI h x1 9 8).bind fun x3 =>
  some x3
theorem b_X9_netCount {X : PX} (E : z_E X cX9_netCount RX9 "netCount" 1 rmX9_netCount (some .int)) (T0 : z_T0 X) {h : PH} {a0 : Nat} {r : Int32} (e : f_X9_netCount h a0 = some r) (M : z_M X rmX9_netCount.cells rmX9_netCount.slots (.inr (some (.int r))) h) : WP X 1 0 0 0 [(0, .ref a0)] [] h := by
  unfold f_X9_netCount at e
  refine z_aload_n E 0 dX9_netCount_0 rfl ?_
  obtain ⟨x1, e2, e⟩ := ob e
  refine z_getR E fl_X9_12 dX9_netCount_1 e2 ?_
  obtain ⟨x3, e4, e⟩ := ob e
  refine z_getI E fl_X9_145 dX9_netCount_4 e4 ?_
  obtain rfl := Option.some.inj e
  exact z_iret E M dX9_netCount_7 rfl rfl rfl rfl (by decide) (by decide)
theorem c_X9_netCount {l : Launch} (hl : l.stackTraces = false) {h : PH} {a0 : Nat} {r : Int32} (e : f_X9_netCount h a0 = some r) : CMet l yX9_netCount (z_W yX9_netCount cX9_netCount 1 (some .int)) rmX9_netCount h [.ref a0] (.inr (some (.int r))) h :=
  z_met hl Y_X9_netCount (by decide +kernel) (Nat.le_of_ble_eq_true rfl) (fun X hX E T0 M => b_X9_netCount E T0 e M)
abbrev rmX10_netCount : Room := { frames := 0, cells := 0, slots := 0, locals := 0 }
noncomputable def f_X10_netCount (h : PH) (a0 : Nat) : Option (Int32 × PH) :=
  (wr h a0 12 8 (.int (0 : Int32))).bind fun h1 =>
  (rdR h1 a0 12 0).bind fun x3 =>
  (alI .int h1 x3 (1 : Int32)).bind fun x5 =>
  some (x5, h1)
theorem b_X10_netCount {X : PX} (E : z_E X cX10_netCount RX10 "netCount" 1 rmX10_netCount (some .int)) (T0 : z_T0 X) {h : PH} {a0 : Nat} {r : (Int32 × PH)} (e : f_X10_netCount h a0 = some r) (M : z_M X rmX10_netCount.cells rmX10_netCount.slots (.inr (some (.int r.1))) r.2) : WP X 1 0 0 0 [(0, .ref a0)] [] h := by
  unfold f_X10_netCount at e
  refine z_aload_n E 0 dX10_netCount_0 rfl ?_
  refine z_iconst E dX10_netCount_1 ic_0 ?_
  obtain ⟨h1, e2, e⟩ := ob e
  refine z_putI E fp_X10_36 (Or.inl rfl) dX10_netCount_2 e2 ?_
  refine z_aload_n E 0 dX10_netCount_5 rfl ?_
  obtain ⟨x3, e4, e⟩ := ob e
  refine z_getR E fl_X10_7 dX10_netCount_6 e4 ?_
  refine z_iconst E dX10_netCount_9 ic_1 ?_
  obtain ⟨x5, e6, e⟩ := ob e
  refine z_iald E dX10_netCount_10 e6 ?_
  obtain rfl := Option.some.inj e
  exact z_iret E M dX10_netCount_11 rfl rfl rfl rfl (by decide) (by decide)
theorem c_X10_netCount {l : Launch} (hl : l.stackTraces = false) {h : PH} {a0 : Nat} {r : (Int32 × PH)} (e : f_X10_netCount h a0 = some r) : CMet l yX10_netCount (z_W yX10_netCount cX10_netCount 1 (some .int)) rmX10_netCount h [.ref a0] (.inr (some (.int r.1))) r.2 :=
  z_met hl Y_X10_netCount (by decide +kernel) (Nat.le_of_ble_eq_true rfl) (fun X hX E T0 M => b_X10_netCount E T0 e M)
abbrev rmX9_needNet : Room := { frames := 6, cells := 1, slots := 6, locals := 92 }
noncomputable def f_X9_needNet (h : PH) (a0 : Nat) (a1 : Int32) : Option (String ⊕ Unit) :=
  (rdR h a0 11 0).bind fun x1 =>
  (gd h x1 9).bind fun _ =>
  (f_X7_hasNet h x1 a1).bind fun p4 =>
  if p4 = true then
    some (Sum.inr ())
  else
    some (Sum.inl "java/lang/IndexOutOfBoundsException")
theorem b_X9_needNet {X : PX} (E : z_E X cX9_needNet RX9 "needNet" 2 rmX9_needNet none) (T0 : z_T0 X) {h : PH} {a0 : Nat} {a1 : Int32} {r : (String ⊕ Unit)} (e : f_X9_needNet h a0 a1 = some r) (M : z_M X rmX9_needNet.cells rmX9_needNet.slots (zoV r) h) : WP X 2 0 0 0 [(0, .ref a0), (1, .int a1)] [] h := by
  unfold f_X9_needNet at e
  refine z_aload_n E 0 dX9_needNet_0 rfl ?_
  obtain ⟨x1, e2, e⟩ := ob e
  refine z_getR E fl_X9_12 dX9_needNet_1 e2 ?_
  refine z_iload_n E 1 dX9_needNet_4 rfl ?_
  obtain ⟨_, e3, e⟩ := ob e
  obtain ⟨p4, e5, e⟩ := ob e
  refine z_kR2 (st := []) (av := [.ref x1, .int a1]) E 0 0 (z_rV (st := []) (av := [.int a1]) E Y_X7_hasNet k_X9_357 (ci := 9) rfl (c_X7_hasNet (z_El E) e5) dX9_needNet_5 e3 rfl rfl (by decide) (by decide) (by decide) (by decide) (Nat.zero_le _)) rfl rfl rfl ?_
  rcases oi e with ⟨c6, e⟩ | ⟨c6, e⟩
  · refine z_if_neT (tgt := 22) E dX9_needNet_8 rfl (zb_t c6) ?_
    obtain rfl := Option.some.inj e
    exact z_vret E M dX9_needNet_22 rfl rfl rfl (by decide) (by decide)
  · refine z_if_neF (tgt := 22) E dX9_needNet_8 rfl (zb_nt c6) ?_
    obtain rfl := Option.some.inj e
    exact z_throw E 7 th_X9_275_336_279 T0 M dX9_needNet_11 dX9_needNet_14 (Or.inr ⟨dX9_needNet_15, rfl⟩) dX9_needNet_18 dX9_needNet_21 rfl rfl (by decide) (Nat.le_of_ble_eq_true rfl) (by decide) (by decide) (by decide) (by decide)
theorem c_X9_needNet {l : Launch} (hl : l.stackTraces = false) {h : PH} {a0 : Nat} {a1 : Int32} {r : (String ⊕ Unit)} (e : f_X9_needNet h a0 a1 = some r) : CMet l yX9_needNet (z_W yX9_needNet cX9_needNet 2 none) rmX9_needNet h [.ref a0, .int a1] (zoV r) h :=
  z_met hl Y_X9_needNet (by decide +kernel) (Nat.le_of_ble_eq_true rfl) (fun X hX E T0 M => b_X9_needNet E T0 e M)
abbrev rmX9_covers : Room := { frames := 7, cells := 2, slots := 12, locals := 113 }
noncomputable def f_X9_covers (h : PH) (a0 : Nat) (a1 : Int32) (a2 : Int32) : Option (String ⊕ Bool) :=
  (gd h a0 11).bind fun _ =>
  (f_X9_needNet h a0 a1).bind fun p2 =>
  Sum.elim
    (fun E4 =>
    some (Sum.inl E4))
    (fun y6 =>
    Sum.elim
      (fun E7 =>
      some (Sum.inl E7))
      (fun y9 =>
      (rdR h a0 11 0).bind fun x10 =>
      (gd h x10 9).bind fun _ =>
      (f_X7_isCovered h x10 a1 a2).bind fun p13 =>
      some (Sum.inr p13)) (f_X9_needPage a2)) p2
theorem b_X9_covers {X : PX} (E : z_E X cX9_covers RX9 "covers" 3 rmX9_covers (some .boolean)) (T0 : z_T0 X) {h : PH} {a0 : Nat} {a1 : Int32} {a2 : Int32} {r : (String ⊕ Bool)} (e : f_X9_covers h a0 a1 a2 = some r) (M : z_M X rmX9_covers.cells rmX9_covers.slots (zoB r) h) : WP X 3 0 0 0 [(0, .ref a0), (1, .int a1), (2, .int a2)] [] h := by
  unfold f_X9_covers at e
  refine z_aload_n E 0 dX9_covers_0 rfl ?_
  refine z_iload_n E 1 dX9_covers_1 rfl ?_
  obtain ⟨_, e1, e⟩ := ob e
  obtain ⟨p2, e3, e⟩ := ob e
  rcases os e with ⟨E4, c5, e⟩ | ⟨y6, c5, e⟩
  · obtain rfl := Option.some.inj e
    refine z_kX2 (st := []) (av := [.ref a0, .int a1]) E 1 6 (z_rV (st := []) (av := [.int a1]) E Y_X9_needNet k_X9_148 (ci := 11) rfl (zc_o (c_X9_needNet (z_El E) e3) (by rw [c5]; rfl)) dX9_covers_2 e1 rfl rfl (by decide) (by decide) (by decide) (by decide) (Nat.zero_le _)) rfl rfl rfl ?_
    exact z_outX E T0 M rfl rfl (by decide) (by decide)
  · refine z_kV2 (st := []) (av := [.ref a0, .int a1]) E 1 6 (z_rV (st := []) (av := [.int a1]) E Y_X9_needNet k_X9_148 (ci := 11) rfl (zc_o (c_X9_needNet (z_El E) e3) (by rw [c5]; rfl)) dX9_covers_2 e1 rfl rfl (by decide) (by decide) (by decide) (by decide) (Nat.zero_le _)) rfl rfl rfl ?_
    refine z_iload_n E 2 dX9_covers_5 rfl ?_
    rcases os e with ⟨E7, c8, e⟩ | ⟨y9, c8, e⟩
    · obtain rfl := Option.some.inj e
      refine z_kX2 (st := []) (av := [.int a2]) E 2 12 (z_rS (st := []) (av := [.int a2]) E Y_X9_needPage k_X9_130 (zc_o (c_X9_needPage (l := z_l X) (h := h) (z_El E) a2) (by rw [c8]; rfl)) dX9_covers_6 rfl rfl (by decide) (by decide) (by decide) (by decide) (Nat.zero_le _)) rfl rfl rfl ?_
      exact z_outX E T0 M rfl rfl (by decide) (by decide)
    · refine z_kV2 (st := []) (av := [.int a2]) E 2 12 (z_rS (st := []) (av := [.int a2]) E Y_X9_needPage k_X9_130 (zc_o (c_X9_needPage (l := z_l X) (h := h) (z_El E) a2) (by rw [c8]; rfl)) dX9_covers_6 rfl rfl (by decide) (by decide) (by decide) (by decide) (Nat.zero_le _)) rfl rfl rfl ?_
      refine z_aload_n E 0 dX9_covers_9 rfl ?_
      obtain ⟨x10, e11, e⟩ := ob e
      refine z_getR E fl_X9_12 dX9_covers_10 e11 ?_
      refine z_iload_n E 1 dX9_covers_13 rfl ?_
      refine z_iload_n E 2 dX9_covers_14 rfl ?_
      obtain ⟨_, e12, e⟩ := ob e
      obtain ⟨p13, e14, e⟩ := ob e
      refine z_kR2 (st := []) (av := [.ref x10, .int a1, .int a2]) E 2 12 (z_rV (st := []) (av := [.int a1, .int a2]) E Y_X7_isCovered k_X9_151 (ci := 9) rfl (c_X7_isCovered (z_El E) e14) dX9_covers_15 e12 rfl rfl (by decide) (by decide) (by decide) (by decide) (Nat.zero_le _)) rfl rfl rfl ?_
      obtain rfl := Option.some.inj e
      exact z_iret E M dX9_covers_18 rfl (zb_nar _) rfl rfl (by decide) (by decide)
theorem c_X9_covers {l : Launch} (hl : l.stackTraces = false) {h : PH} {a0 : Nat} {a1 : Int32} {a2 : Int32} {r : (String ⊕ Bool)} (e : f_X9_covers h a0 a1 a2 = some r) : CMet l yX9_covers (z_W yX9_covers cX9_covers 3 (some .boolean)) rmX9_covers h [.ref a0, .int a1, .int a2] (zoB r) h :=
  z_met hl Y_X9_covers (by decide +kernel) (Nat.le_of_ble_eq_true rfl) (fun X hX E T0 M => b_X9_covers E T0 e M)
abbrev rmL_covers : Room := { frames := 8, cells := 2, slots := 12, locals := 135 }
noncomputable def f_L_covers (h : PH) (a0 : Nat) (a1 : Int32) (a2 : Int32) (a3 : Nat) : Option (Int32 × PH) :=
  (gd h a0 11).bind fun _ =>
  (f_X9_covers h a0 a1 a2).bind fun p2 =>
  Sum.elim
    (fun E4 =>
    if E4 = "java/lang/IndexOutOfBoundsException" then
      some ((1 : Int32), h)
    else if E4 = "java/lang/IllegalArgumentException" then
      some ((2 : Int32), h)
    else none)
    (fun y6 =>
    if y6 = false then
      (asL h a3 (0 : Int32) (0 : Int64)).bind fun h10 =>
      some ((0 : Int32), h10)
    else
      (asL h a3 (0 : Int32) (1 : Int64)).bind fun h12 =>
      some ((0 : Int32), h12)) p2
theorem b_L_covers {X : PX} (E : z_E X cL_covers RL "covers" 5 rmL_covers (some .int)) (TT : z_TT X [(0, 17, 20, 77), (0, 17, 24, 13)]) {h : PH} {a0 : Nat} {a1 : Int32} {a2 : Int32} {a3 : Nat} {r : (Int32 × PH)} (e : f_L_covers h a0 a1 a2 a3 = some r) (M : z_M X rmL_covers.cells rmL_covers.slots (.inr (some (.int r.1))) r.2) : WP X 5 0 0 0 [(0, .ref a0), (1, .int a1), (2, .int a2), (3, .ref a3)] [] h := by
  unfold f_L_covers at e
  refine z_aload_n E 3 dL_covers_0 rfl ?_
  refine z_iconst E dL_covers_1 ic_0 ?_
  refine z_aload_n E 0 dL_covers_2 rfl ?_
  refine z_iload_n E 1 dL_covers_3 rfl ?_
  refine z_iload_n E 2 dL_covers_4 rfl ?_
  obtain ⟨_, e1, e⟩ := ob e
  obtain ⟨p2, e3, e⟩ := ob e
  rcases os e with ⟨E4, c5, e⟩ | ⟨y6, c5, e⟩
  · rcases oi e with ⟨c7, e⟩ | ⟨c7, e⟩
    · subst c7
      refine z_kX2 (st := [.int (0 : Int32), .ref a3]) (av := [.ref a0, .int a1, .int a2]) E 2 12 (z_rV (st := [.int (0 : Int32), .ref a3]) (av := [.int a1, .int a2]) E Y_X9_covers k_L_82 (ci := 11) rfl (zc_o (c_X9_covers (z_El E) e3) (by rw [c5]; rfl)) dL_covers_5 e1 rfl rfl (by decide) (by decide) (by decide) (by decide) (Nat.le_of_ble_eq_true rfl)) rfl rfl rfl ?_
      refine z_catch (lv2 := [(0, .ref a0), (1, .int a1), (2, .int a2), (3, .ref a3)]) E TT 0 (q := (0, 17, 20, 77)) rfl rfl (by decide) cl_L_77 kb_IndexOutOfBoundsException (fun z hz => nomatch hz) (Or.inr ⟨dL_covers_20, rfl⟩) (by decide) rfl ?_
      refine z_iconst E dL_covers_22 ic_1 ?_
      obtain rfl := Option.some.inj e
      exact z_iret E M dL_covers_23 rfl rfl rfl rfl (by decide) (by decide)
    rcases oi e with ⟨c8, e⟩ | ⟨c8, e⟩
    · subst c8
      refine z_kX2 (st := [.int (0 : Int32), .ref a3]) (av := [.ref a0, .int a1, .int a2]) E 2 12 (z_rV (st := [.int (0 : Int32), .ref a3]) (av := [.int a1, .int a2]) E Y_X9_covers k_L_82 (ci := 11) rfl (zc_o (c_X9_covers (z_El E) e3) (by rw [c5]; rfl)) dL_covers_5 e1 rfl rfl (by decide) (by decide) (by decide) (by decide) (Nat.le_of_ble_eq_true rfl)) rfl rfl rfl ?_
      refine z_catch (lv2 := [(0, .ref a0), (1, .int a1), (2, .int a2), (3, .ref a3)]) E TT 1 (q := (0, 17, 24, 13)) rfl rfl (by decide) cl_L_13 kb_IllegalArgumentException (List.forall_mem_cons.mpr ⟨⟨by decide, "java/lang/IndexOutOfBoundsException", cl_L_77, nc_IllegalArgumentException_IndexOutOfBoundsException⟩, (fun z hz => nomatch hz)⟩) (Or.inr ⟨dL_covers_24, rfl⟩) (by decide) rfl ?_
      refine z_iconst E dL_covers_26 ic_2 ?_
      obtain rfl := Option.some.inj e
      exact z_iret E M dL_covers_27 rfl rfl rfl rfl (by decide) (by decide)
    cases e
  · refine z_kR2 (st := [.int (0 : Int32), .ref a3]) (av := [.ref a0, .int a1, .int a2]) E 2 12 (z_rV (st := [.int (0 : Int32), .ref a3]) (av := [.int a1, .int a2]) E Y_X9_covers k_L_82 (ci := 11) rfl (zc_o (c_X9_covers (z_El E) e3) (by rw [c5]; rfl)) dL_covers_5 e1 rfl rfl (by decide) (by decide) (by decide) (by decide) (Nat.le_of_ble_eq_true rfl)) rfl rfl rfl ?_
    rcases oi e with ⟨c9, e⟩ | ⟨c9, e⟩
    · refine z_if_eqT (tgt := 15) E dL_covers_8 rfl (zb_f c9) ?_
      refine z_lconst (v := (0 : Int64)) E dL_covers_15 rfl ?_
      obtain ⟨h10, e11, e⟩ := ob e
      refine z_last E dL_covers_16 e11 ?_
      refine z_goto (tgt := 28) E dL_covers_17 rfl ?_
      refine z_iconst E dL_covers_28 ic_0 ?_
      obtain rfl := Option.some.inj e
      exact z_iret E M dL_covers_29 rfl rfl rfl rfl (by decide) (by decide)
    · refine z_if_eqF (tgt := 15) E dL_covers_8 rfl (zb_nf c9) ?_
      refine z_lconst (v := (1 : Int64)) E dL_covers_11 rfl ?_
      refine z_goto (tgt := 16) E dL_covers_12 rfl ?_
      obtain ⟨h12, e13, e⟩ := ob e
      refine z_last E dL_covers_16 e13 ?_
      refine z_goto (tgt := 28) E dL_covers_17 rfl ?_
      refine z_iconst E dL_covers_28 ic_0 ?_
      obtain rfl := Option.some.inj e
      exact z_iret E M dL_covers_29 rfl rfl rfl rfl (by decide) (by decide)
theorem c_L_covers {l : Launch} (hl : l.stackTraces = false) {h : PH} {a0 : Nat} {a1 : Int32} {a2 : Int32} {a3 : Nat} {r : (Int32 × PH)} (e : f_L_covers h a0 a1 a2 a3 = some r) : CMet l yL_covers (z_WH yL_covers cL_covers 5 (some .int) [(0, 17, 20, 77), (0, 17, 24, 13)]) rmL_covers h [.ref a0, .int a1, .int a2, .ref a3] (.inr (some (.int r.1))) r.2 :=
  z_metH hl Y_L_covers (by decide +kernel) (Nat.le_of_ble_eq_true rfl) (fun X hX E T0 M => b_L_covers E T0 e M)
abbrev rmX10_covers : Room := { frames := 2, cells := 0, slots := 0, locals := 44 }
noncomputable def f_X10_covers (h : PH) (a0 : Nat) (a1 : Int32) (a2 : Int32) : Option (Bool × PH) :=
  (gd h a0 12).bind fun _ =>
  (f_X10_isNet h a0 a1).bind fun p2 =>
  if p2 = true then
    if (f_X10_isPage a2) = false then
      (gd h a0 12).bind fun _ =>
      (f_X10_fails h a0 (2 : Int32)).bind fun p7 =>
      if p7.1 = true then
        some (false, p7.2)
      else
        (gd p7.2 a0 12).bind fun _ =>
        (f_X10_isCovered p7.2 a0 a1 a2).bind fun p11 =>
        if p11 = false then
          some (false, p7.2)
        else
          some (true, p7.2)
    else
      (gd h a0 12).bind fun _ =>
      (f_X10_fails h a0 (0 : Int32)).bind fun p15 =>
      if p15.1 = true then
        some (false, p15.2)
      else
        (gd p15.2 a0 12).bind fun _ =>
        (f_X10_isCovered p15.2 a0 a1 a2).bind fun p19 =>
        if p19 = false then
          some (false, p15.2)
        else
          some (true, p15.2)
  else
    (gd h a0 12).bind fun _ =>
    (f_X10_fails h a0 (1 : Int32)).bind fun p23 =>
    if p23.1 = true then
      some (false, p23.2)
    else
      (gd p23.2 a0 12).bind fun _ =>
      (f_X10_isCovered p23.2 a0 a1 a2).bind fun p27 =>
      if p27 = false then
        some (false, p23.2)
      else
        some (true, p23.2)
theorem b_X10_covers {X : PX} (E : z_E X cX10_covers RX10 "covers" 3 rmX10_covers (some .boolean)) (T0 : z_T0 X) {h : PH} {a0 : Nat} {a1 : Int32} {a2 : Int32} {r : (Bool × PH)} (e : f_X10_covers h a0 a1 a2 = some r) (M : z_M X rmX10_covers.cells rmX10_covers.slots (.inr (some (.int (zb r.1)))) r.2) : WP X 3 0 0 0 [(0, .ref a0), (1, .int a1), (2, .int a2)] [] h := by
  unfold f_X10_covers at e
  refine z_aload_n E 0 dX10_covers_0 rfl ?_
  refine z_aload_n E 0 dX10_covers_1 rfl ?_
  refine z_iload_n E 1 dX10_covers_2 rfl ?_
  obtain ⟨_, e1, e⟩ := ob e
  obtain ⟨p2, e3, e⟩ := ob e
  refine z_kR2 (st := [.ref a0]) (av := [.ref a0, .int a1]) E 0 0 (z_rV (st := [.ref a0]) (av := [.int a1]) E Y_X10_isNet k_X10_148 (ci := 12) rfl (c_X10_isNet (z_El E) e3) dX10_covers_3 e1 rfl rfl (by decide) (by decide) (by decide) (by decide) (Nat.le_of_ble_eq_true rfl)) rfl rfl rfl ?_
  rcases oi e with ⟨c4, e⟩ | ⟨c4, e⟩
  · refine z_if_neT (tgt := 13) E dX10_covers_6 rfl (zb_t c4) ?_
    refine z_iload_n E 2 dX10_covers_13 rfl ?_
    refine z_kR2 (st := [.ref a0]) (av := [.int a2]) E 0 0 (z_rS (st := [.ref a0]) (av := [.int a2]) E Y_X10_isPage k_X10_77 (c_X10_isPage (l := z_l X) (h := h) (z_El E) a2) dX10_covers_14 rfl rfl (by decide) (by decide) (by decide) (by decide) (Nat.le_of_ble_eq_true rfl)) rfl rfl rfl ?_
    rcases oi e with ⟨c5, e⟩ | ⟨c5, e⟩
    · refine z_if_eqT (tgt := 24) E dX10_covers_17 rfl (zb_f c5) ?_
      refine z_iconst E dX10_covers_24 ic_2 ?_
      obtain ⟨_, e6, e⟩ := ob e
      obtain ⟨p7, e8, e⟩ := ob e
      refine z_kR2 (st := []) (av := [.ref a0, .int (2 : Int32)]) E 0 0 (z_rV (st := []) (av := [.int (2 : Int32)]) E Y_X10_fails k_X10_70 (ci := 12) rfl (c_X10_fails (z_El E) e8) dX10_covers_25 e6 rfl rfl (by decide) (by decide) (by decide) (by decide) (Nat.zero_le _)) rfl rfl rfl ?_
      rcases oi e with ⟨c9, e⟩ | ⟨c9, e⟩
      · refine z_if_neT (tgt := 44) E dX10_covers_28 rfl (zb_t c9) ?_
        refine z_iconst E dX10_covers_44 ic_0 ?_
        obtain rfl := Option.some.inj e
        exact z_iret E M dX10_covers_45 rfl rfl rfl rfl (by decide) (by decide)
      · refine z_if_neF (tgt := 44) E dX10_covers_28 rfl (zb_nt c9) ?_
        refine z_aload_n E 0 dX10_covers_31 rfl ?_
        refine z_iload_n E 1 dX10_covers_32 rfl ?_
        refine z_iload_n E 2 dX10_covers_33 rfl ?_
        obtain ⟨_, e10, e⟩ := ob e
        obtain ⟨p11, e12, e⟩ := ob e
        refine z_kR2 (st := []) (av := [.ref a0, .int a1, .int a2]) E 0 0 (z_rV (st := []) (av := [.int a1, .int a2]) E Y_X10_isCovered k_X10_154 (ci := 12) rfl (c_X10_isCovered (z_El E) e12) dX10_covers_34 e10 rfl rfl (by decide) (by decide) (by decide) (by decide) (Nat.zero_le _)) rfl rfl rfl ?_
        rcases oi e with ⟨c13, e⟩ | ⟨c13, e⟩
        · refine z_if_eqT (tgt := 44) E dX10_covers_37 rfl (zb_f c13) ?_
          refine z_iconst E dX10_covers_44 ic_0 ?_
          obtain rfl := Option.some.inj e
          exact z_iret E M dX10_covers_45 rfl rfl rfl rfl (by decide) (by decide)
        · refine z_if_eqF (tgt := 44) E dX10_covers_37 rfl (zb_nf c13) ?_
          refine z_iconst E dX10_covers_40 ic_1 ?_
          refine z_goto (tgt := 45) E dX10_covers_41 rfl ?_
          obtain rfl := Option.some.inj e
          exact z_iret E M dX10_covers_45 rfl rfl rfl rfl (by decide) (by decide)
    · refine z_if_eqF (tgt := 24) E dX10_covers_17 rfl (zb_nf c5) ?_
      refine z_iconst E dX10_covers_20 ic_0 ?_
      refine z_goto (tgt := 25) E dX10_covers_21 rfl ?_
      obtain ⟨_, e14, e⟩ := ob e
      obtain ⟨p15, e16, e⟩ := ob e
      refine z_kR2 (st := []) (av := [.ref a0, .int (0 : Int32)]) E 0 0 (z_rV (st := []) (av := [.int (0 : Int32)]) E Y_X10_fails k_X10_70 (ci := 12) rfl (c_X10_fails (z_El E) e16) dX10_covers_25 e14 rfl rfl (by decide) (by decide) (by decide) (by decide) (Nat.zero_le _)) rfl rfl rfl ?_
      rcases oi e with ⟨c17, e⟩ | ⟨c17, e⟩
      · refine z_if_neT (tgt := 44) E dX10_covers_28 rfl (zb_t c17) ?_
        refine z_iconst E dX10_covers_44 ic_0 ?_
        obtain rfl := Option.some.inj e
        exact z_iret E M dX10_covers_45 rfl rfl rfl rfl (by decide) (by decide)
      · refine z_if_neF (tgt := 44) E dX10_covers_28 rfl (zb_nt c17) ?_
        refine z_aload_n E 0 dX10_covers_31 rfl ?_
        refine z_iload_n E 1 dX10_covers_32 rfl ?_
        refine z_iload_n E 2 dX10_covers_33 rfl ?_
        obtain ⟨_, e18, e⟩ := ob e
        obtain ⟨p19, e20, e⟩ := ob e
        refine z_kR2 (st := []) (av := [.ref a0, .int a1, .int a2]) E 0 0 (z_rV (st := []) (av := [.int a1, .int a2]) E Y_X10_isCovered k_X10_154 (ci := 12) rfl (c_X10_isCovered (z_El E) e20) dX10_covers_34 e18 rfl rfl (by decide) (by decide) (by decide) (by decide) (Nat.zero_le _)) rfl rfl rfl ?_
        rcases oi e with ⟨c21, e⟩ | ⟨c21, e⟩
        · refine z_if_eqT (tgt := 44) E dX10_covers_37 rfl (zb_f c21) ?_
          refine z_iconst E dX10_covers_44 ic_0 ?_
          obtain rfl := Option.some.inj e
          exact z_iret E M dX10_covers_45 rfl rfl rfl rfl (by decide) (by decide)
        · refine z_if_eqF (tgt := 44) E dX10_covers_37 rfl (zb_nf c21) ?_
          refine z_iconst E dX10_covers_40 ic_1 ?_
          refine z_goto (tgt := 45) E dX10_covers_41 rfl ?_
          obtain rfl := Option.some.inj e
          exact z_iret E M dX10_covers_45 rfl rfl rfl rfl (by decide) (by decide)
  · refine z_if_neF (tgt := 13) E dX10_covers_6 rfl (zb_nt c4) ?_
    refine z_iconst E dX10_covers_9 ic_1 ?_
    refine z_goto (tgt := 25) E dX10_covers_10 rfl ?_
    obtain ⟨_, e22, e⟩ := ob e
    obtain ⟨p23, e24, e⟩ := ob e
    refine z_kR2 (st := []) (av := [.ref a0, .int (1 : Int32)]) E 0 0 (z_rV (st := []) (av := [.int (1 : Int32)]) E Y_X10_fails k_X10_70 (ci := 12) rfl (c_X10_fails (z_El E) e24) dX10_covers_25 e22 rfl rfl (by decide) (by decide) (by decide) (by decide) (Nat.zero_le _)) rfl rfl rfl ?_
    rcases oi e with ⟨c25, e⟩ | ⟨c25, e⟩
    · refine z_if_neT (tgt := 44) E dX10_covers_28 rfl (zb_t c25) ?_
      refine z_iconst E dX10_covers_44 ic_0 ?_
      obtain rfl := Option.some.inj e
      exact z_iret E M dX10_covers_45 rfl rfl rfl rfl (by decide) (by decide)
    · refine z_if_neF (tgt := 44) E dX10_covers_28 rfl (zb_nt c25) ?_
      refine z_aload_n E 0 dX10_covers_31 rfl ?_
      refine z_iload_n E 1 dX10_covers_32 rfl ?_
      refine z_iload_n E 2 dX10_covers_33 rfl ?_
      obtain ⟨_, e26, e⟩ := ob e
      obtain ⟨p27, e28, e⟩ := ob e
      refine z_kR2 (st := []) (av := [.ref a0, .int a1, .int a2]) E 0 0 (z_rV (st := []) (av := [.int a1, .int a2]) E Y_X10_isCovered k_X10_154 (ci := 12) rfl (c_X10_isCovered (z_El E) e28) dX10_covers_34 e26 rfl rfl (by decide) (by decide) (by decide) (by decide) (Nat.zero_le _)) rfl rfl rfl ?_
      rcases oi e with ⟨c29, e⟩ | ⟨c29, e⟩
      · refine z_if_eqT (tgt := 44) E dX10_covers_37 rfl (zb_f c29) ?_
        refine z_iconst E dX10_covers_44 ic_0 ?_
        obtain rfl := Option.some.inj e
        exact z_iret E M dX10_covers_45 rfl rfl rfl rfl (by decide) (by decide)
      · refine z_if_eqF (tgt := 44) E dX10_covers_37 rfl (zb_nf c29) ?_
        refine z_iconst E dX10_covers_40 ic_1 ?_
        refine z_goto (tgt := 45) E dX10_covers_41 rfl ?_
        obtain rfl := Option.some.inj e
        exact z_iret E M dX10_covers_45 rfl rfl rfl rfl (by decide) (by decide)
theorem c_X10_covers {l : Launch} (hl : l.stackTraces = false) {h : PH} {a0 : Nat} {a1 : Int32} {a2 : Int32} {r : (Bool × PH)} (e : f_X10_covers h a0 a1 a2 = some r) : CMet l yX10_covers (z_W yX10_covers cX10_covers 3 (some .boolean)) rmX10_covers h [.ref a0, .int a1, .int a2] (.inr (some (.int (zb r.1)))) r.2 :=
  z_met hl Y_X10_covers (by decide +kernel) (Nat.le_of_ble_eq_true rfl) (fun X hX E T0 M => b_X10_covers E T0 e M)
abbrev rmX9_catchSize : Room := { frames := 7, cells := 1, slots := 6, locals := 113 }
noncomputable def f_X9_catchSize (h : PH) (a0 : Nat) (a1 : Int32) : Option (String ⊕ Int32) :=
  (gd h a0 11).bind fun _ =>
  (f_X9_needNet h a0 a1).bind fun p2 =>
  Sum.elim
    (fun E4 =>
    some (Sum.inl E4))
    (fun y6 =>
    (rdR h a0 11 0).bind fun x7 =>
    (gd h x7 9).bind fun _ =>
    (f_X7_catchOf h x7 a1).bind fun p10 =>
    some (Sum.inr (f_J6_bitCount_0f7a4 p10))) p2
theorem b_X9_catchSize {X : PX} (E : z_E X cX9_catchSize RX9 "catchSize" 2 rmX9_catchSize (some .int)) (T0 : z_T0 X) {h : PH} {a0 : Nat} {a1 : Int32} {r : (String ⊕ Int32)} (e : f_X9_catchSize h a0 a1 = some r) (M : z_M X rmX9_catchSize.cells rmX9_catchSize.slots (zoI r) h) : WP X 2 0 0 0 [(0, .ref a0), (1, .int a1)] [] h := by
  unfold f_X9_catchSize at e
  refine z_aload_n E 0 dX9_catchSize_0 rfl ?_
  refine z_iload_n E 1 dX9_catchSize_1 rfl ?_
  obtain ⟨_, e1, e⟩ := ob e
  obtain ⟨p2, e3, e⟩ := ob e
  rcases os e with ⟨E4, c5, e⟩ | ⟨y6, c5, e⟩
  · obtain rfl := Option.some.inj e
    refine z_kX2 (st := []) (av := [.ref a0, .int a1]) E 1 6 (z_rV (st := []) (av := [.int a1]) E Y_X9_needNet k_X9_148 (ci := 11) rfl (zc_o (c_X9_needNet (z_El E) e3) (by rw [c5]; rfl)) dX9_catchSize_2 e1 rfl rfl (by decide) (by decide) (by decide) (by decide) (Nat.zero_le _)) rfl rfl rfl ?_
    exact z_outX E T0 M rfl rfl (by decide) (by decide)
  · refine z_kV2 (st := []) (av := [.ref a0, .int a1]) E 1 6 (z_rV (st := []) (av := [.int a1]) E Y_X9_needNet k_X9_148 (ci := 11) rfl (zc_o (c_X9_needNet (z_El E) e3) (by rw [c5]; rfl)) dX9_catchSize_2 e1 rfl rfl (by decide) (by decide) (by decide) (by decide) (Nat.zero_le _)) rfl rfl rfl ?_
    refine z_aload_n E 0 dX9_catchSize_5 rfl ?_
    obtain ⟨x7, e8, e⟩ := ob e
    refine z_getR E fl_X9_12 dX9_catchSize_6 e8 ?_
    refine z_iload_n E 1 dX9_catchSize_9 rfl ?_
    obtain ⟨_, e9, e⟩ := ob e
    obtain ⟨p10, e11, e⟩ := ob e
    refine z_kR2 (st := []) (av := [.ref x7, .int a1]) E 1 6 (z_rV (st := []) (av := [.int a1]) E Y_X7_catchOf k_X9_154 (ci := 9) rfl (c_X7_catchOf (z_El E) e11) dX9_catchSize_10 e9 rfl rfl (by decide) (by decide) (by decide) (by decide) (Nat.zero_le _)) rfl rfl rfl ?_
    refine z_kR2 (st := []) (av := [.int p10]) E 1 6 (z_rS (st := []) (av := [.int p10]) E Y_J6_bitCount_0f7a4 k_X9_157 (c_J6_bitCount_0f7a4 (l := z_l X) (h := h) (z_El E) p10) dX9_catchSize_13 rfl rfl (by decide) (by decide) (by decide) (by decide) (Nat.zero_le _)) rfl rfl rfl ?_
    obtain rfl := Option.some.inj e
    exact z_iret E M dX9_catchSize_16 rfl rfl rfl rfl (by decide) (by decide)
theorem c_X9_catchSize {l : Launch} (hl : l.stackTraces = false) {h : PH} {a0 : Nat} {a1 : Int32} {r : (String ⊕ Int32)} (e : f_X9_catchSize h a0 a1 = some r) : CMet l yX9_catchSize (z_W yX9_catchSize cX9_catchSize 2 (some .int)) rmX9_catchSize h [.ref a0, .int a1] (zoI r) h :=
  z_met hl Y_X9_catchSize (by decide +kernel) (Nat.le_of_ble_eq_true rfl) (fun X hX E T0 M => b_X9_catchSize E T0 e M)
abbrev rmL_catchSize : Room := { frames := 8, cells := 1, slots := 6, locals := 134 }
noncomputable def f_L_catchSize (h : PH) (a0 : Nat) (a1 : Int32) (a2 : Nat) : Option (Int32 × PH) :=
  (gd h a0 11).bind fun _ =>
  (f_X9_catchSize h a0 a1).bind fun p2 =>
  Sum.elim
    (fun E4 =>
    if E4 = "java/lang/IndexOutOfBoundsException" then
      some ((1 : Int32), h)
    else none)
    (fun y6 =>
    (asL h a2 (0 : Int32) y6.toInt64).bind fun h8 =>
    some ((0 : Int32), h8)) p2
theorem b_L_catchSize {X : PX} (E : z_E X cL_catchSize RL "catchSize" 4 rmL_catchSize (some .int)) (TT : z_TT X [(0, 9, 12, 77)]) {h : PH} {a0 : Nat} {a1 : Int32} {a2 : Nat} {r : (Int32 × PH)} (e : f_L_catchSize h a0 a1 a2 = some r) (M : z_M X rmL_catchSize.cells rmL_catchSize.slots (.inr (some (.int r.1))) r.2) : WP X 4 0 0 0 [(0, .ref a0), (1, .int a1), (2, .ref a2)] [] h := by
  unfold f_L_catchSize at e
  refine z_aload_n E 2 dL_catchSize_0 rfl ?_
  refine z_iconst E dL_catchSize_1 ic_0 ?_
  refine z_aload_n E 0 dL_catchSize_2 rfl ?_
  refine z_iload_n E 1 dL_catchSize_3 rfl ?_
  obtain ⟨_, e1, e⟩ := ob e
  obtain ⟨p2, e3, e⟩ := ob e
  rcases os e with ⟨E4, c5, e⟩ | ⟨y6, c5, e⟩
  · rcases oi e with ⟨c7, e⟩ | ⟨c7, e⟩
    · subst c7
      refine z_kX2 (st := [.int (0 : Int32), .ref a2]) (av := [.ref a0, .int a1]) E 1 6 (z_rV (st := [.int (0 : Int32), .ref a2]) (av := [.int a1]) E Y_X9_catchSize k_L_85 (ci := 11) rfl (zc_o (c_X9_catchSize (z_El E) e3) (by rw [c5]; rfl)) dL_catchSize_4 e1 rfl rfl (by decide) (by decide) (by decide) (by decide) (Nat.le_of_ble_eq_true rfl)) rfl rfl rfl ?_
      refine z_catch (lv2 := [(0, .ref a0), (1, .int a1), (2, .ref a2)]) E TT 0 (q := (0, 9, 12, 77)) rfl rfl (by decide) cl_L_77 kb_IndexOutOfBoundsException (fun z hz => nomatch hz) (Or.inl ⟨_, dL_catchSize_12, rfl, rfl⟩) (by decide) rfl ?_
      refine z_iconst E dL_catchSize_13 ic_1 ?_
      obtain rfl := Option.some.inj e
      exact z_iret E M dL_catchSize_14 rfl rfl rfl rfl (by decide) (by decide)
    cases e
  · refine z_kR2 (st := [.int (0 : Int32), .ref a2]) (av := [.ref a0, .int a1]) E 1 6 (z_rV (st := [.int (0 : Int32), .ref a2]) (av := [.int a1]) E Y_X9_catchSize k_L_85 (ci := 11) rfl (zc_o (c_X9_catchSize (z_El E) e3) (by rw [c5]; rfl)) dL_catchSize_4 e1 rfl rfl (by decide) (by decide) (by decide) (by decide) (Nat.le_of_ble_eq_true rfl)) rfl rfl rfl ?_
    refine z_i2l (v := y6.toInt64) E dL_catchSize_7 rfl ?_
    obtain ⟨h8, e9, e⟩ := ob e
    refine z_last E dL_catchSize_8 e9 ?_
    refine z_goto (tgt := 15) E dL_catchSize_9 rfl ?_
    refine z_iconst E dL_catchSize_15 ic_0 ?_
    obtain rfl := Option.some.inj e
    exact z_iret E M dL_catchSize_16 rfl rfl rfl rfl (by decide) (by decide)
theorem c_L_catchSize {l : Launch} (hl : l.stackTraces = false) {h : PH} {a0 : Nat} {a1 : Int32} {a2 : Nat} {r : (Int32 × PH)} (e : f_L_catchSize h a0 a1 a2 = some r) : CMet l yL_catchSize (z_WH yL_catchSize cL_catchSize 4 (some .int) [(0, 9, 12, 77)]) rmL_catchSize h [.ref a0, .int a1, .ref a2] (.inr (some (.int r.1))) r.2 :=
  z_metH hl Y_L_catchSize (by decide +kernel) (Nat.le_of_ble_eq_true rfl) (fun X hX E T0 M => b_L_catchSize E T0 e M)
abbrev rmX10_catchSize : Room := { frames := 3, cells := 0, slots := 0, locals := 69 }
noncomputable def f_X10_catchSize (h : PH) (a0 : Nat) (a1 : Int32) : Option (Int32 × PH) :=
  (gd h a0 12).bind fun _ =>
  (f_X10_isNet h a0 a1).bind fun p2 =>
  if p2 = false then
    (gd h a0 12).bind fun _ =>
    (f_X10_fails h a0 (1 : Int32)).bind fun p6 =>
    if p6.1 = false then
      (gd p6.2 a0 12).bind fun _ =>
      (f_X10_catches p6.2 a0 a1).bind fun p10 =>
      (f_X10_bits p10).bind fun p12 =>
      some (p12, p6.2)
    else
      some ((0 : Int32), p6.2)
  else
    (gd h a0 12).bind fun _ =>
    (f_X10_fails h a0 (0 : Int32)).bind fun p15 =>
    if p15.1 = false then
      (gd p15.2 a0 12).bind fun _ =>
      (f_X10_catches p15.2 a0 a1).bind fun p19 =>
      (f_X10_bits p19).bind fun p21 =>
      some (p21, p15.2)
    else
      some ((0 : Int32), p15.2)
theorem b_X10_catchSize {X : PX} (E : z_E X cX10_catchSize RX10 "catchSize" 2 rmX10_catchSize (some .int)) (T0 : z_T0 X) {h : PH} {a0 : Nat} {a1 : Int32} {r : (Int32 × PH)} (e : f_X10_catchSize h a0 a1 = some r) (M : z_M X rmX10_catchSize.cells rmX10_catchSize.slots (.inr (some (.int r.1))) r.2) : WP X 2 0 0 0 [(0, .ref a0), (1, .int a1)] [] h := by
  unfold f_X10_catchSize at e
  refine z_aload_n E 0 dX10_catchSize_0 rfl ?_
  refine z_aload_n E 0 dX10_catchSize_1 rfl ?_
  refine z_iload_n E 1 dX10_catchSize_2 rfl ?_
  obtain ⟨_, e1, e⟩ := ob e
  obtain ⟨p2, e3, e⟩ := ob e
  refine z_kR2 (st := [.ref a0]) (av := [.ref a0, .int a1]) E 0 0 (z_rV (st := [.ref a0]) (av := [.int a1]) E Y_X10_isNet k_X10_148 (ci := 12) rfl (c_X10_isNet (z_El E) e3) dX10_catchSize_3 e1 rfl rfl (by decide) (by decide) (by decide) (by decide) (Nat.le_of_ble_eq_true rfl)) rfl rfl rfl ?_
  rcases oi e with ⟨c4, e⟩ | ⟨c4, e⟩
  · refine z_if_eqT (tgt := 13) E dX10_catchSize_6 rfl (zb_f c4) ?_
    refine z_iconst E dX10_catchSize_13 ic_1 ?_
    obtain ⟨_, e5, e⟩ := ob e
    obtain ⟨p6, e7, e⟩ := ob e
    refine z_kR2 (st := []) (av := [.ref a0, .int (1 : Int32)]) E 0 0 (z_rV (st := []) (av := [.int (1 : Int32)]) E Y_X10_fails k_X10_70 (ci := 12) rfl (c_X10_fails (z_El E) e7) dX10_catchSize_14 e5 rfl rfl (by decide) (by decide) (by decide) (by decide) (Nat.zero_le _)) rfl rfl rfl ?_
    rcases oi e with ⟨c8, e⟩ | ⟨c8, e⟩
    · refine z_if_eqT (tgt := 24) E dX10_catchSize_17 rfl (zb_f c8) ?_
      refine z_aload_n E 0 dX10_catchSize_24 rfl ?_
      refine z_iload_n E 1 dX10_catchSize_25 rfl ?_
      obtain ⟨_, e9, e⟩ := ob e
      obtain ⟨p10, e11, e⟩ := ob e
      refine z_kR2 (st := []) (av := [.ref a0, .int a1]) E 0 0 (z_rV (st := []) (av := [.int a1]) E Y_X10_catches k_X10_157 (ci := 12) rfl (c_X10_catches (z_El E) e11) dX10_catchSize_26 e9 rfl rfl (by decide) (by decide) (by decide) (by decide) (Nat.zero_le _)) rfl rfl rfl ?_
      obtain ⟨p12, e13, e⟩ := ob e
      refine z_kR2 (st := []) (av := [.int p10]) E 0 0 (z_rS (st := []) (av := [.int p10]) E Y_X10_bits k_X10_99 (c_X10_bits (z_El E) e13) dX10_catchSize_29 rfl rfl (by decide) (by decide) (by decide) (by decide) (Nat.zero_le _)) rfl rfl rfl ?_
      obtain rfl := Option.some.inj e
      exact z_iret E M dX10_catchSize_32 rfl rfl rfl rfl (by decide) (by decide)
    · refine z_if_eqF (tgt := 24) E dX10_catchSize_17 rfl (zb_nf c8) ?_
      refine z_iconst E dX10_catchSize_20 ic_0 ?_
      refine z_goto (tgt := 32) E dX10_catchSize_21 rfl ?_
      obtain rfl := Option.some.inj e
      exact z_iret E M dX10_catchSize_32 rfl rfl rfl rfl (by decide) (by decide)
  · refine z_if_eqF (tgt := 13) E dX10_catchSize_6 rfl (zb_nf c4) ?_
    refine z_iconst E dX10_catchSize_9 ic_0 ?_
    refine z_goto (tgt := 14) E dX10_catchSize_10 rfl ?_
    obtain ⟨_, e14, e⟩ := ob e
    obtain ⟨p15, e16, e⟩ := ob e
    refine z_kR2 (st := []) (av := [.ref a0, .int (0 : Int32)]) E 0 0 (z_rV (st := []) (av := [.int (0 : Int32)]) E Y_X10_fails k_X10_70 (ci := 12) rfl (c_X10_fails (z_El E) e16) dX10_catchSize_14 e14 rfl rfl (by decide) (by decide) (by decide) (by decide) (Nat.zero_le _)) rfl rfl rfl ?_
    rcases oi e with ⟨c17, e⟩ | ⟨c17, e⟩
    · refine z_if_eqT (tgt := 24) E dX10_catchSize_17 rfl (zb_f c17) ?_
      refine z_aload_n E 0 dX10_catchSize_24 rfl ?_
      refine z_iload_n E 1 dX10_catchSize_25 rfl ?_
      obtain ⟨_, e18, e⟩ := ob e
      obtain ⟨p19, e20, e⟩ := ob e
      refine z_kR2 (st := []) (av := [.ref a0, .int a1]) E 0 0 (z_rV (st := []) (av := [.int a1]) E Y_X10_catches k_X10_157 (ci := 12) rfl (c_X10_catches (z_El E) e20) dX10_catchSize_26 e18 rfl rfl (by decide) (by decide) (by decide) (by decide) (Nat.zero_le _)) rfl rfl rfl ?_
      obtain ⟨p21, e22, e⟩ := ob e
      refine z_kR2 (st := []) (av := [.int p19]) E 0 0 (z_rS (st := []) (av := [.int p19]) E Y_X10_bits k_X10_99 (c_X10_bits (z_El E) e22) dX10_catchSize_29 rfl rfl (by decide) (by decide) (by decide) (by decide) (Nat.zero_le _)) rfl rfl rfl ?_
      obtain rfl := Option.some.inj e
      exact z_iret E M dX10_catchSize_32 rfl rfl rfl rfl (by decide) (by decide)
    · refine z_if_eqF (tgt := 24) E dX10_catchSize_17 rfl (zb_nf c17) ?_
      refine z_iconst E dX10_catchSize_20 ic_0 ?_
      refine z_goto (tgt := 32) E dX10_catchSize_21 rfl ?_
      obtain rfl := Option.some.inj e
      exact z_iret E M dX10_catchSize_32 rfl rfl rfl rfl (by decide) (by decide)
theorem c_X10_catchSize {l : Launch} (hl : l.stackTraces = false) {h : PH} {a0 : Nat} {a1 : Int32} {r : (Int32 × PH)} (e : f_X10_catchSize h a0 a1 = some r) : CMet l yX10_catchSize (z_W yX10_catchSize cX10_catchSize 2 (some .int)) rmX10_catchSize h [.ref a0, .int a1] (.inr (some (.int r.1))) r.2 :=
  z_met hl Y_X10_catchSize (by decide +kernel) (Nat.le_of_ble_eq_true rfl) (fun X hX E T0 M => b_X10_catchSize E T0 e M)
abbrev rmX7_heaviestNet : Room := { frames := 3, cells := 0, slots := 0, locals := 69 }
noncomputable def f_X7_heaviestNet_L6 : Nat → PH → Nat → Int32 → Int32 → Int32 → Option Int32
  | 0, _, _, _, _, _ => none
  | fu + 1, h, v0, v1, v2, v3 =>
    (rdI h v0 9 8).bind fun x1 =>
    if x1 ≤ v3 then
      some v1
    else
      (gd h v0 9).bind fun _ =>
      (f_X7_catchOf h v0 v3).bind fun p5 =>
      (gd h v0 9).bind fun _ =>
      (f_X7_weightOfAll h v0 p5).bind fun p8 =>
      if p8 ≤ v2 then
        f_X7_heaviestNet_L6 fu h v0 v1 v2 (v3 + (1 : Int32))
      else
        f_X7_heaviestNet_L6 fu h v0 v3 p8 (v3 + (1 : Int32))
theorem b_X7_heaviestNet_L6 {X : PX} (E : z_E X cX7_heaviestNet RX7 "heaviestNet" 5 rmX7_heaviestNet (some .int)) (T0 : z_T0 X) {k n : Nat} (hk : k + 0 ≤ rmX7_heaviestNet.cells) (hn : n + 0 ≤ rmX7_heaviestNet.slots) {s : Int32} : ∀ (fu : Nat) (h : PH) (v0 : Nat) (v1 : Int32) (v2 : Int32) (v3 : Int32) (e : f_X7_heaviestNet_L6 fu h v0 v1 v2 v3 = some s) (kk : WP X 5 k n 42 [(1, .int s)] [] h), WP X 5 k n 6 [(0, .ref v0), (1, .int v1), (2, .int v2), (3, .int v3)] [] h := by
  intro fu
  induction fu with
  | zero => intro h v0 v1 v2 v3 e; exact absurd (show (none : Option Int32) = some s from e) (by intro z; cases z)
  | succ fu ih =>
    intro h v0 v1 v2 v3 e kk
    unfold f_X7_heaviestNet_L6 at e
    refine z_iload_n E 3 dX7_heaviestNet_6 rfl ?_
    refine z_aload_n E 0 dX7_heaviestNet_7 rfl ?_
    obtain ⟨x1, e2, e⟩ := ob e
    refine z_getI E fl_X7_62 dX7_heaviestNet_8 e2 ?_
    rcases oi e with ⟨c3, e⟩ | ⟨c3, e⟩
    · refine z_icmp_geT (tgt := 42) E dX7_heaviestNet_11 rfl c3 ?_
      obtain rfl := Option.some.inj e
      exact z_sub [1] rfl kk
    · refine z_icmp_geF (tgt := 42) E dX7_heaviestNet_11 rfl c3 ?_
      refine z_aload_n E 0 dX7_heaviestNet_14 rfl ?_
      refine z_aload_n E 0 dX7_heaviestNet_15 rfl ?_
      refine z_iload_n E 3 dX7_heaviestNet_16 rfl ?_
      obtain ⟨_, e4, e⟩ := ob e
      obtain ⟨p5, e6, e⟩ := ob e
      refine z_kR2 (st := [.ref v0]) (av := [.ref v0, .int v3]) E k n (z_rV (st := [.ref v0]) (av := [.int v3]) E Y_X7_catchOf k_X7_120 (ci := 9) rfl (c_X7_catchOf (z_El E) e6) dX7_heaviestNet_17 e4 rfl rfl (by decide) (by decide) (zk (k := k) (a := 0) hk (by decide)) (zk (k := n) (a := 0) hn (by decide)) (Nat.le_of_ble_eq_true rfl)) rfl rfl rfl ?_
      obtain ⟨_, e7, e⟩ := ob e
      obtain ⟨p8, e9, e⟩ := ob e
      refine z_kR2 (st := []) (av := [.ref v0, .int p5]) E k n (z_rV (st := []) (av := [.int p5]) E Y_X7_weightOfAll k_X7_123 (ci := 9) rfl (c_X7_weightOfAll (z_El E) e9) dX7_heaviestNet_20 e7 rfl rfl (by decide) (by decide) (zk (k := k) (a := 0) hk (by decide)) (zk (k := n) (a := 0) hn (by decide)) (Nat.zero_le _)) rfl rfl rfl ?_
      refine z_istore (lv2 := [(4, .int p8), (0, .ref v0), (1, .int v1), (2, .int v2), (3, .int v3)]) E dX7_heaviestNet_23 (by decide) rfl ?_
      refine z_iload E 0 dX7_heaviestNet_25 rfl ?_
      refine z_iload_n E 3 dX7_heaviestNet_27 rfl ?_
      rcases oi e with ⟨c10, e⟩ | ⟨c10, e⟩
      · refine z_icmp_leT (tgt := 36) E dX7_heaviestNet_28 rfl c10 ?_
        refine z_iinc (v := (v3 + (1 : Int32))) (lv2 := [(3, .int (v3 + (1 : Int32))), (4, .int p8), (0, .ref v0), (1, .int v1), (2, .int v2)]) E 4 dX7_heaviestNet_36 rfl (congrArg (v3 + ·) ic_1) (by decide) rfl ?_
        refine z_goto (tgt := 6) E dX7_heaviestNet_39 rfl ?_
        exact z_sub [2, 3, 4, 0] rfl (ih _ _ _ _ _ e kk)
      · refine z_icmp_leF (tgt := 36) E dX7_heaviestNet_28 rfl c10 ?_
        refine z_iload E 0 dX7_heaviestNet_31 rfl ?_
        refine z_istore_n (lv2 := [(2, .int p8), (4, .int p8), (0, .ref v0), (1, .int v1), (3, .int v3)]) E dX7_heaviestNet_33 (by decide) rfl ?_
        refine z_iload_n E 4 dX7_heaviestNet_34 rfl ?_
        refine z_istore_n (lv2 := [(1, .int v3), (2, .int p8), (4, .int p8), (0, .ref v0), (3, .int v3)]) E dX7_heaviestNet_35 (by decide) rfl ?_
        refine z_iinc (v := (v3 + (1 : Int32))) (lv2 := [(3, .int (v3 + (1 : Int32))), (1, .int v3), (2, .int p8), (4, .int p8), (0, .ref v0)]) E 4 dX7_heaviestNet_36 rfl (congrArg (v3 + ·) ic_1) (by decide) rfl ?_
        refine z_goto (tgt := 6) E dX7_heaviestNet_39 rfl ?_
        exact z_sub [4, 1, 2, 0] rfl (ih _ _ _ _ _ e kk)
noncomputable def f_X7_heaviestNet (h : PH) (a0 : Nat) : Option Int32 :=
  (f_X7_heaviestNet_L6 FV h a0 (-1 : Int32) (0 : Int32) (0 : Int32)).bind fun s1 =>
  some s1
theorem b_X7_heaviestNet {X : PX} (E : z_E X cX7_heaviestNet RX7 "heaviestNet" 5 rmX7_heaviestNet (some .int)) (T0 : z_T0 X) {h : PH} {a0 : Nat} {r : Int32} (e : f_X7_heaviestNet h a0 = some r) (M : z_M X rmX7_heaviestNet.cells rmX7_heaviestNet.slots (.inr (some (.int r))) h) : WP X 5 0 0 0 [(0, .ref a0)] [] h := by
  unfold f_X7_heaviestNet at e
  refine z_iconst E dX7_heaviestNet_0 ic_m1 ?_
  refine z_istore_n (lv2 := [(1, .int (-1 : Int32)), (0, .ref a0)]) E dX7_heaviestNet_1 (by decide) rfl ?_
  refine z_iconst E dX7_heaviestNet_2 ic_0 ?_
  refine z_istore_n (lv2 := [(2, .int (0 : Int32)), (1, .int (-1 : Int32)), (0, .ref a0)]) E dX7_heaviestNet_3 (by decide) rfl ?_
  refine z_iconst E dX7_heaviestNet_4 ic_0 ?_
  refine z_istore_n (lv2 := [(3, .int (0 : Int32)), (2, .int (0 : Int32)), (1, .int (-1 : Int32)), (0, .ref a0)]) E dX7_heaviestNet_5 (by decide) rfl ?_
  obtain ⟨s1, e2, e⟩ := ob e
  refine z_sub [3, 2, 1, 0] rfl (b_X7_heaviestNet_L6 E T0 (by decide) (by decide) FV _ _ _ _ _ e2 ?_)
  refine z_iload_n E 0 dX7_heaviestNet_42 rfl ?_
  obtain rfl := Option.some.inj e
  exact z_iret E M dX7_heaviestNet_43 rfl rfl rfl rfl (by decide) (by decide)
theorem c_X7_heaviestNet {l : Launch} (hl : l.stackTraces = false) {h : PH} {a0 : Nat} {r : Int32} (e : f_X7_heaviestNet h a0 = some r) : CMet l yX7_heaviestNet (z_W yX7_heaviestNet cX7_heaviestNet 5 (some .int)) rmX7_heaviestNet h [.ref a0] (.inr (some (.int r))) h :=
  z_met hl Y_X7_heaviestNet (by decide +kernel) (Nat.le_of_ble_eq_true rfl) (fun X hX E T0 M => b_X7_heaviestNet E T0 e M)
abbrev rmX9_bestNet : Room := { frames := 6, cells := 1, slots := 6, locals := 93 }
noncomputable def f_X9_bestNet (h : PH) (a0 : Nat) : Option (String ⊕ Int32) :=
  (rdR h a0 11 0).bind fun x1 =>
  (gd h x1 9).bind fun _ =>
  (f_X7_heaviestNet h x1).bind fun p4 =>
  if 0 ≤ p4 then
    some (Sum.inr p4)
  else
    some (Sum.inl "java/util/NoSuchElementException")
theorem b_X9_bestNet {X : PX} (E : z_E X cX9_bestNet RX9 "bestNet" 2 rmX9_bestNet (some .int)) (T0 : z_T0 X) {h : PH} {a0 : Nat} {r : (String ⊕ Int32)} (e : f_X9_bestNet h a0 = some r) (M : z_M X rmX9_bestNet.cells rmX9_bestNet.slots (zoI r) h) : WP X 2 0 0 0 [(0, .ref a0)] [] h := by
  unfold f_X9_bestNet at e
  refine z_aload_n E 0 dX9_bestNet_0 rfl ?_
  obtain ⟨x1, e2, e⟩ := ob e
  refine z_getR E fl_X9_12 dX9_bestNet_1 e2 ?_
  obtain ⟨_, e3, e⟩ := ob e
  obtain ⟨p4, e5, e⟩ := ob e
  refine z_kR2 (st := []) (av := [.ref x1]) E 0 0 (z_rV (st := []) (av := []) E Y_X7_heaviestNet k_X9_162 (ci := 9) rfl (c_X7_heaviestNet (z_El E) e5) dX9_bestNet_4 e3 rfl rfl (by decide) (by decide) (by decide) (by decide) (Nat.zero_le _)) rfl rfl rfl ?_
  refine z_istore_n (lv2 := [(1, .int p4), (0, .ref a0)]) E dX9_bestNet_7 (by decide) rfl ?_
  refine z_iload_n E 0 dX9_bestNet_8 rfl ?_
  rcases oi e with ⟨c6, e⟩ | ⟨c6, e⟩
  · refine z_if_geT (tgt := 22) E dX9_bestNet_9 rfl c6 ?_
    refine z_iload_n E 0 dX9_bestNet_22 rfl ?_
    obtain rfl := Option.some.inj e
    exact z_iret E M dX9_bestNet_23 rfl rfl rfl rfl (by decide) (by decide)
  · refine z_if_geF (tgt := 22) E dX9_bestNet_9 rfl c6 ?_
    obtain rfl := Option.some.inj e
    exact z_throw E 6 th_X9_120_166_124 T0 M dX9_bestNet_12 dX9_bestNet_15 (Or.inl ⟨dX9_bestNet_16, rfl⟩) dX9_bestNet_18 dX9_bestNet_21 rfl rfl (by decide) (Nat.le_of_ble_eq_true rfl) (by decide) (by decide) (by decide) (by decide)
theorem c_X9_bestNet {l : Launch} (hl : l.stackTraces = false) {h : PH} {a0 : Nat} {r : (String ⊕ Int32)} (e : f_X9_bestNet h a0 = some r) : CMet l yX9_bestNet (z_W yX9_bestNet cX9_bestNet 2 (some .int)) rmX9_bestNet h [.ref a0] (zoI r) h :=
  z_met hl Y_X9_bestNet (by decide +kernel) (Nat.le_of_ble_eq_true rfl) (fun X hX E T0 M => b_X9_bestNet E T0 e M)
abbrev rmL_bestNet : Room := { frames := 7, cells := 1, slots := 6, locals := 114 }
noncomputable def f_L_bestNet (h : PH) (a0 : Nat) (a1 : Nat) : Option (Int32 × PH) :=
  (gd h a0 11).bind fun _ =>
  (f_X9_bestNet h a0).bind fun p2 =>
  Sum.elim
    (fun E4 =>
    if E4 = "java/util/NoSuchElementException" then
      some ((1 : Int32), h)
    else none)
    (fun y6 =>
    (asL h a1 (0 : Int32) y6.toInt64).bind fun h8 =>
    some ((0 : Int32), h8)) p2
theorem b_L_bestNet {X : PX} (E : z_E X cL_bestNet RL "bestNet" 3 rmL_bestNet (some .int)) (TT : z_TT X [(0, 8, 11, 20)]) {h : PH} {a0 : Nat} {a1 : Nat} {r : (Int32 × PH)} (e : f_L_bestNet h a0 a1 = some r) (M : z_M X rmL_bestNet.cells rmL_bestNet.slots (.inr (some (.int r.1))) r.2) : WP X 3 0 0 0 [(0, .ref a0), (1, .ref a1)] [] h := by
  unfold f_L_bestNet at e
  refine z_aload_n E 1 dL_bestNet_0 rfl ?_
  refine z_iconst E dL_bestNet_1 ic_0 ?_
  refine z_aload_n E 0 dL_bestNet_2 rfl ?_
  obtain ⟨_, e1, e⟩ := ob e
  obtain ⟨p2, e3, e⟩ := ob e
  rcases os e with ⟨E4, c5, e⟩ | ⟨y6, c5, e⟩
  · rcases oi e with ⟨c7, e⟩ | ⟨c7, e⟩
    · subst c7
      refine z_kX2 (st := [.int (0 : Int32), .ref a1]) (av := [.ref a0]) E 1 6 (z_rV (st := [.int (0 : Int32), .ref a1]) (av := []) E Y_X9_bestNet k_L_88 (ci := 11) rfl (zc_o (c_X9_bestNet (z_El E) e3) (by rw [c5]; rfl)) dL_bestNet_3 e1 rfl rfl (by decide) (by decide) (by decide) (by decide) (Nat.le_of_ble_eq_true rfl)) rfl rfl rfl ?_
      refine z_catch (lv2 := [(0, .ref a0), (1, .ref a1)]) E TT 0 (q := (0, 8, 11, 20)) rfl rfl (by decide) cl_L_20 kb_NoSuchElementException (fun z hz => nomatch hz) (Or.inl ⟨_, dL_bestNet_11, rfl, rfl⟩) (by decide) rfl ?_
      refine z_iconst E dL_bestNet_12 ic_1 ?_
      obtain rfl := Option.some.inj e
      exact z_iret E M dL_bestNet_13 rfl rfl rfl rfl (by decide) (by decide)
    cases e
  · refine z_kR2 (st := [.int (0 : Int32), .ref a1]) (av := [.ref a0]) E 1 6 (z_rV (st := [.int (0 : Int32), .ref a1]) (av := []) E Y_X9_bestNet k_L_88 (ci := 11) rfl (zc_o (c_X9_bestNet (z_El E) e3) (by rw [c5]; rfl)) dL_bestNet_3 e1 rfl rfl (by decide) (by decide) (by decide) (by decide) (Nat.le_of_ble_eq_true rfl)) rfl rfl rfl ?_
    refine z_i2l (v := y6.toInt64) E dL_bestNet_6 rfl ?_
    obtain ⟨h8, e9, e⟩ := ob e
    refine z_last E dL_bestNet_7 e9 ?_
    refine z_goto (tgt := 14) E dL_bestNet_8 rfl ?_
    refine z_iconst E dL_bestNet_14 ic_0 ?_
    obtain rfl := Option.some.inj e
    exact z_iret E M dL_bestNet_15 rfl rfl rfl rfl (by decide) (by decide)
theorem c_L_bestNet {l : Launch} (hl : l.stackTraces = false) {h : PH} {a0 : Nat} {a1 : Nat} {r : (Int32 × PH)} (e : f_L_bestNet h a0 a1 = some r) : CMet l yL_bestNet (z_WH yL_bestNet cL_bestNet 3 (some .int) [(0, 8, 11, 20)]) rmL_bestNet h [.ref a0, .ref a1] (.inr (some (.int r.1))) r.2 :=
  z_metH hl Y_L_bestNet (by decide +kernel) (Nat.le_of_ble_eq_true rfl) (fun X hX E T0 M => b_L_bestNet E T0 e M)
abbrev rmX10_heavy : Room := { frames := 1, cells := 0, slots := 0, locals := 22 }
noncomputable def f_X10_heavy_L4 : Nat → PH → Nat → Int32 → Int32 → Int32 → Option Int32
  | 0, _, _, _, _, _ => none
  | fu + 1, h, v0, v1, v2, v3 =>
    (rdR h v0 12 0).bind fun x1 =>
    (alI .int h x1 (0 : Int32)).bind fun x3 =>
    if x3 ≤ v3 then
      some v2
    else
      (gd h v0 12).bind fun _ =>
      (f_X10_of h v0 v3 (1 : Int32)).bind fun p7 =>
      f_X10_heavy_L4 fu h v0 v1 (v2 + (((zshr v1 v3) &&& (1 : Int32)) * p7)) (v3 + (1 : Int32))
theorem b_X10_heavy_L4 {X : PX} (E : z_E X cX10_heavy RX10 "heavy" 4 rmX10_heavy (some .int)) (T0 : z_T0 X) {k n : Nat} (hk : k + 0 ≤ rmX10_heavy.cells) (hn : n + 0 ≤ rmX10_heavy.slots) {s : Int32} : ∀ (fu : Nat) (h : PH) (v0 : Nat) (v1 : Int32) (v2 : Int32) (v3 : Int32) (e : f_X10_heavy_L4 fu h v0 v1 v2 v3 = some s) (kk : WP X 4 k n 35 [(2, .int s)] [] h), WP X 4 k n 4 [(0, .ref v0), (1, .int v1), (2, .int v2), (3, .int v3)] [] h := by
  intro fu
  induction fu with
  | zero => intro h v0 v1 v2 v3 e; exact absurd (show (none : Option Int32) = some s from e) (by intro z; cases z)
  | succ fu ih =>
    intro h v0 v1 v2 v3 e kk
    unfold f_X10_heavy_L4 at e
    refine z_iload_n E 3 dX10_heavy_4 rfl ?_
    refine z_aload_n E 0 dX10_heavy_5 rfl ?_
    obtain ⟨x1, e2, e⟩ := ob e
    refine z_getR E fl_X10_7 dX10_heavy_6 e2 ?_
    refine z_iconst E dX10_heavy_9 ic_0 ?_
    obtain ⟨x3, e4, e⟩ := ob e
    refine z_iald E dX10_heavy_10 e4 ?_
    rcases oi e with ⟨c5, e⟩ | ⟨c5, e⟩
    · refine z_icmp_geT (tgt := 35) E dX10_heavy_11 rfl c5 ?_
      obtain rfl := Option.some.inj e
      exact z_sub [2] rfl kk
    · refine z_icmp_geF (tgt := 35) E dX10_heavy_11 rfl c5 ?_
      refine z_iload_n E 2 dX10_heavy_14 rfl ?_
      refine z_iload_n E 1 dX10_heavy_15 rfl ?_
      refine z_iload_n E 3 dX10_heavy_16 rfl ?_
      refine z_ishr E dX10_heavy_17 ?_
      refine z_iconst E dX10_heavy_18 ic_1 ?_
      refine z_iand E dX10_heavy_19 ?_
      refine z_aload_n E 0 dX10_heavy_20 rfl ?_
      refine z_iload_n E 3 dX10_heavy_21 rfl ?_
      refine z_iconst E dX10_heavy_22 ic_1 ?_
      obtain ⟨_, e6, e⟩ := ob e
      obtain ⟨p7, e8, e⟩ := ob e
      refine z_kR2 (st := [.int ((zshr v1 v3) &&& (1 : Int32)), .int v2]) (av := [.ref v0, .int v3, .int (1 : Int32)]) E k n (z_rV (st := [.int ((zshr v1 v3) &&& (1 : Int32)), .int v2]) (av := [.int v3, .int (1 : Int32)]) E Y_X10_of k_X10_73 (ci := 12) rfl (c_X10_of (z_El E) e8) dX10_heavy_23 e6 rfl rfl (by decide) (by decide) (zk (k := k) (a := 0) hk (by decide)) (zk (k := n) (a := 0) hn (by decide)) (Nat.le_of_ble_eq_true rfl)) rfl rfl rfl ?_
      refine z_imul E dX10_heavy_26 ?_
      refine z_iadd E dX10_heavy_27 ?_
      refine z_istore_n (lv2 := [(2, .int (v2 + (((zshr v1 v3) &&& (1 : Int32)) * p7))), (0, .ref v0), (1, .int v1), (3, .int v3)]) E dX10_heavy_28 (by decide) rfl ?_
      refine z_iinc (v := (v3 + (1 : Int32))) (lv2 := [(3, .int (v3 + (1 : Int32))), (2, .int (v2 + (((zshr v1 v3) &&& (1 : Int32)) * p7))), (0, .ref v0), (1, .int v1)]) E 3 dX10_heavy_29 rfl (congrArg (v3 + ·) ic_1) (by decide) rfl ?_
      refine z_goto (tgt := 4) E dX10_heavy_32 rfl ?_
      exact z_sub [2, 3, 1, 0] rfl (ih _ _ _ _ _ e kk)
noncomputable def f_X10_heavy (h : PH) (a0 : Nat) (a1 : Int32) : Option Int32 :=
  (f_X10_heavy_L4 FV h a0 a1 (0 : Int32) (0 : Int32)).bind fun s1 =>
  some s1
theorem b_X10_heavy {X : PX} (E : z_E X cX10_heavy RX10 "heavy" 4 rmX10_heavy (some .int)) (T0 : z_T0 X) {h : PH} {a0 : Nat} {a1 : Int32} {r : Int32} (e : f_X10_heavy h a0 a1 = some r) (M : z_M X rmX10_heavy.cells rmX10_heavy.slots (.inr (some (.int r))) h) : WP X 4 0 0 0 [(0, .ref a0), (1, .int a1)] [] h := by
  unfold f_X10_heavy at e
  refine z_iconst E dX10_heavy_0 ic_0 ?_
  refine z_istore_n (lv2 := [(2, .int (0 : Int32)), (0, .ref a0), (1, .int a1)]) E dX10_heavy_1 (by decide) rfl ?_
  refine z_iconst E dX10_heavy_2 ic_0 ?_
  refine z_istore_n (lv2 := [(3, .int (0 : Int32)), (2, .int (0 : Int32)), (0, .ref a0), (1, .int a1)]) E dX10_heavy_3 (by decide) rfl ?_
  obtain ⟨s1, e2, e⟩ := ob e
  refine z_sub [2, 3, 1, 0] rfl (b_X10_heavy_L4 E T0 (by decide) (by decide) FV _ _ _ _ _ e2 ?_)
  refine z_iload_n E 0 dX10_heavy_35 rfl ?_
  obtain rfl := Option.some.inj e
  exact z_iret E M dX10_heavy_36 rfl rfl rfl rfl (by decide) (by decide)
theorem c_X10_heavy {l : Launch} (hl : l.stackTraces = false) {h : PH} {a0 : Nat} {a1 : Int32} {r : Int32} (e : f_X10_heavy h a0 a1 = some r) : CMet l yX10_heavy (z_W yX10_heavy cX10_heavy 4 (some .int)) rmX10_heavy h [.ref a0, .int a1] (.inr (some (.int r))) h :=
  z_met hl Y_X10_heavy (by decide +kernel) (Nat.le_of_ble_eq_true rfl) (fun X hX E T0 M => b_X10_heavy E T0 e M)
abbrev rmX10_bestNet : Room := { frames := 3, cells := 0, slots := 0, locals := 69 }
noncomputable def f_X10_bestNet_L4 : Nat → PH → Nat → Int32 → Int32 → Option Int32
  | 0, _, _, _, _ => none
  | fu + 1, h, v0, v1, v2 =>
    (rdR h v0 12 0).bind fun x1 =>
    (alI .int h x1 (1 : Int32)).bind fun x3 =>
    if x3 ≤ v2 then
      some v1
    else
      (gd h v0 12).bind fun _ =>
      (f_X10_catches h v0 v2).bind fun p7 =>
      if p7 = 0 then
        f_X10_bestNet_L4 fu h v0 v1 (v2 + (1 : Int32))
      else
        if v1 < 0 then
          f_X10_bestNet_L4 fu h v0 v2 (v2 + (1 : Int32))
        else
          (gd h v0 12).bind fun _ =>
          (f_X10_catches h v0 v2).bind fun p12 =>
          (gd h v0 12).bind fun _ =>
          (f_X10_heavy h v0 p12).bind fun p15 =>
          (gd h v0 12).bind fun _ =>
          (f_X10_catches h v0 v1).bind fun p18 =>
          (gd h v0 12).bind fun _ =>
          (f_X10_heavy h v0 p18).bind fun p21 =>
          if p15 ≤ p21 then
            f_X10_bestNet_L4 fu h v0 v1 (v2 + (1 : Int32))
          else
            f_X10_bestNet_L4 fu h v0 v2 (v2 + (1 : Int32))
theorem b_X10_bestNet_L4 {X : PX} (E : z_E X cX10_bestNet RX10 "bestNet" 3 rmX10_bestNet (some .int)) (T0 : z_T0 X) {k n : Nat} (hk : k + 0 ≤ rmX10_bestNet.cells) (hn : n + 0 ≤ rmX10_bestNet.slots) {s : Int32} : ∀ (fu : Nat) (h : PH) (v0 : Nat) (v1 : Int32) (v2 : Int32) (e : f_X10_bestNet_L4 fu h v0 v1 v2 = some s) (kk : WP X 3 k n 55 [(0, .ref v0), (1, .int s)] [] h), WP X 3 k n 4 [(0, .ref v0), (1, .int v1), (2, .int v2)] [] h := by
  intro fu
  induction fu with
  | zero => intro h v0 v1 v2 e; exact absurd (show (none : Option Int32) = some s from e) (by intro z; cases z)
  | succ fu ih =>
    intro h v0 v1 v2 e kk
    unfold f_X10_bestNet_L4 at e
    refine z_iload_n E 2 dX10_bestNet_4 rfl ?_
    refine z_aload_n E 0 dX10_bestNet_5 rfl ?_
    obtain ⟨x1, e2, e⟩ := ob e
    refine z_getR E fl_X10_7 dX10_bestNet_6 e2 ?_
    refine z_iconst E dX10_bestNet_9 ic_1 ?_
    obtain ⟨x3, e4, e⟩ := ob e
    refine z_iald E dX10_bestNet_10 e4 ?_
    rcases oi e with ⟨c5, e⟩ | ⟨c5, e⟩
    · refine z_icmp_geT (tgt := 55) E dX10_bestNet_11 rfl c5 ?_
      obtain rfl := Option.some.inj e
      exact z_sub [0, 1] rfl kk
    · refine z_icmp_geF (tgt := 55) E dX10_bestNet_11 rfl c5 ?_
      refine z_aload_n E 0 dX10_bestNet_14 rfl ?_
      refine z_iload_n E 2 dX10_bestNet_15 rfl ?_
      obtain ⟨_, e6, e⟩ := ob e
      obtain ⟨p7, e8, e⟩ := ob e
      refine z_kR2 (st := []) (av := [.ref v0, .int v2]) E k n (z_rV (st := []) (av := [.int v2]) E Y_X10_catches k_X10_157 (ci := 12) rfl (c_X10_catches (z_El E) e8) dX10_bestNet_16 e6 rfl rfl (by decide) (by decide) (zk (k := k) (a := 0) hk (by decide)) (zk (k := n) (a := 0) hn (by decide)) (Nat.zero_le _)) rfl rfl rfl ?_
      rcases oi e with ⟨c9, e⟩ | ⟨c9, e⟩
      · refine z_if_eqT (tgt := 49) E dX10_bestNet_19 rfl c9 ?_
        refine z_iinc (v := (v2 + (1 : Int32))) (lv2 := [(2, .int (v2 + (1 : Int32))), (0, .ref v0), (1, .int v1)]) E 2 dX10_bestNet_49 rfl (congrArg (v2 + ·) ic_1) (by decide) rfl ?_
        refine z_goto (tgt := 4) E dX10_bestNet_52 rfl ?_
        exact z_sub [1, 2, 0] rfl (ih _ _ _ _ e kk)
      · refine z_if_eqF (tgt := 49) E dX10_bestNet_19 rfl c9 ?_
        refine z_iload_n E 1 dX10_bestNet_22 rfl ?_
        rcases oi e with ⟨c10, e⟩ | ⟨c10, e⟩
        · refine z_if_ltT (tgt := 47) E dX10_bestNet_23 rfl c10 ?_
          refine z_iload_n E 2 dX10_bestNet_47 rfl ?_
          refine z_istore_n (lv2 := [(1, .int v2), (0, .ref v0), (2, .int v2)]) E dX10_bestNet_48 (by decide) rfl ?_
          refine z_iinc (v := (v2 + (1 : Int32))) (lv2 := [(2, .int (v2 + (1 : Int32))), (1, .int v2), (0, .ref v0)]) E 2 dX10_bestNet_49 rfl (congrArg (v2 + ·) ic_1) (by decide) rfl ?_
          refine z_goto (tgt := 4) E dX10_bestNet_52 rfl ?_
          exact z_sub [2, 1, 0] rfl (ih _ _ _ _ e kk)
        · refine z_if_ltF (tgt := 47) E dX10_bestNet_23 rfl c10 ?_
          refine z_aload_n E 0 dX10_bestNet_26 rfl ?_
          refine z_aload_n E 0 dX10_bestNet_27 rfl ?_
          refine z_iload_n E 2 dX10_bestNet_28 rfl ?_
          obtain ⟨_, e11, e⟩ := ob e
          obtain ⟨p12, e13, e⟩ := ob e
          refine z_kR2 (st := [.ref v0]) (av := [.ref v0, .int v2]) E k n (z_rV (st := [.ref v0]) (av := [.int v2]) E Y_X10_catches k_X10_157 (ci := 12) rfl (c_X10_catches (z_El E) e13) dX10_bestNet_29 e11 rfl rfl (by decide) (by decide) (zk (k := k) (a := 0) hk (by decide)) (zk (k := n) (a := 0) hn (by decide)) (Nat.le_of_ble_eq_true rfl)) rfl rfl rfl ?_
          obtain ⟨_, e14, e⟩ := ob e
          obtain ⟨p15, e16, e⟩ := ob e
          refine z_kR2 (st := []) (av := [.ref v0, .int p12]) E k n (z_rV (st := []) (av := [.int p12]) E Y_X10_heavy k_X10_160 (ci := 12) rfl (c_X10_heavy (z_El E) e16) dX10_bestNet_32 e14 rfl rfl (by decide) (by decide) (zk (k := k) (a := 0) hk (by decide)) (zk (k := n) (a := 0) hn (by decide)) (Nat.zero_le _)) rfl rfl rfl ?_
          refine z_aload_n E 0 dX10_bestNet_35 rfl ?_
          refine z_aload_n E 0 dX10_bestNet_36 rfl ?_
          refine z_iload_n E 1 dX10_bestNet_37 rfl ?_
          obtain ⟨_, e17, e⟩ := ob e
          obtain ⟨p18, e19, e⟩ := ob e
          refine z_kR2 (st := [.ref v0, .int p15]) (av := [.ref v0, .int v1]) E k n (z_rV (st := [.ref v0, .int p15]) (av := [.int v1]) E Y_X10_catches k_X10_157 (ci := 12) rfl (c_X10_catches (z_El E) e19) dX10_bestNet_38 e17 rfl rfl (by decide) (by decide) (zk (k := k) (a := 0) hk (by decide)) (zk (k := n) (a := 0) hn (by decide)) (Nat.le_of_ble_eq_true rfl)) rfl rfl rfl ?_
          obtain ⟨_, e20, e⟩ := ob e
          obtain ⟨p21, e22, e⟩ := ob e
          refine z_kR2 (st := [.int p15]) (av := [.ref v0, .int p18]) E k n (z_rV (st := [.int p15]) (av := [.int p18]) E Y_X10_heavy k_X10_160 (ci := 12) rfl (c_X10_heavy (z_El E) e22) dX10_bestNet_41 e20 rfl rfl (by decide) (by decide) (zk (k := k) (a := 0) hk (by decide)) (zk (k := n) (a := 0) hn (by decide)) (Nat.le_of_ble_eq_true rfl)) rfl rfl rfl ?_
          rcases oi e with ⟨c23, e⟩ | ⟨c23, e⟩
          · refine z_icmp_leT (tgt := 49) E dX10_bestNet_44 rfl c23 ?_
            refine z_iinc (v := (v2 + (1 : Int32))) (lv2 := [(2, .int (v2 + (1 : Int32))), (0, .ref v0), (1, .int v1)]) E 2 dX10_bestNet_49 rfl (congrArg (v2 + ·) ic_1) (by decide) rfl ?_
            refine z_goto (tgt := 4) E dX10_bestNet_52 rfl ?_
            exact z_sub [1, 2, 0] rfl (ih _ _ _ _ e kk)
          · refine z_icmp_leF (tgt := 49) E dX10_bestNet_44 rfl c23 ?_
            refine z_iload_n E 2 dX10_bestNet_47 rfl ?_
            refine z_istore_n (lv2 := [(1, .int v2), (0, .ref v0), (2, .int v2)]) E dX10_bestNet_48 (by decide) rfl ?_
            refine z_iinc (v := (v2 + (1 : Int32))) (lv2 := [(2, .int (v2 + (1 : Int32))), (1, .int v2), (0, .ref v0)]) E 2 dX10_bestNet_49 rfl (congrArg (v2 + ·) ic_1) (by decide) rfl ?_
            refine z_goto (tgt := 4) E dX10_bestNet_52 rfl ?_
            exact z_sub [2, 1, 0] rfl (ih _ _ _ _ e kk)
noncomputable def f_X10_bestNet (h : PH) (a0 : Nat) : Option (Int32 × PH) :=
  (f_X10_bestNet_L4 FV h a0 (-1 : Int32) (0 : Int32)).bind fun s1 =>
  if 0 ≤ s1 then
    (gd h a0 12).bind fun _ =>
    (f_X10_fails h a0 (0 : Int32)).bind fun p5 =>
    if p5.1 = false then
      some (s1, p5.2)
    else
      some ((0 : Int32), p5.2)
  else
    (gd h a0 12).bind fun _ =>
    (f_X10_fails h a0 (1 : Int32)).bind fun p9 =>
    if p9.1 = false then
      some (s1, p9.2)
    else
      some ((0 : Int32), p9.2)
theorem b_X10_bestNet {X : PX} (E : z_E X cX10_bestNet RX10 "bestNet" 3 rmX10_bestNet (some .int)) (T0 : z_T0 X) {h : PH} {a0 : Nat} {r : (Int32 × PH)} (e : f_X10_bestNet h a0 = some r) (M : z_M X rmX10_bestNet.cells rmX10_bestNet.slots (.inr (some (.int r.1))) r.2) : WP X 3 0 0 0 [(0, .ref a0)] [] h := by
  unfold f_X10_bestNet at e
  refine z_iconst E dX10_bestNet_0 ic_m1 ?_
  refine z_istore_n (lv2 := [(1, .int (-1 : Int32)), (0, .ref a0)]) E dX10_bestNet_1 (by decide) rfl ?_
  refine z_iconst E dX10_bestNet_2 ic_0 ?_
  refine z_istore_n (lv2 := [(2, .int (0 : Int32)), (1, .int (-1 : Int32)), (0, .ref a0)]) E dX10_bestNet_3 (by decide) rfl ?_
  obtain ⟨s1, e2, e⟩ := ob e
  refine z_sub [2, 1, 0] rfl (b_X10_bestNet_L4 E T0 (by decide) (by decide) FV _ _ _ _ e2 ?_)
  refine z_aload_n E 0 dX10_bestNet_55 rfl ?_
  refine z_iload_n E 1 dX10_bestNet_56 rfl ?_
  rcases oi e with ⟨c3, e⟩ | ⟨c3, e⟩
  · refine z_if_geT (tgt := 64) E dX10_bestNet_57 rfl c3 ?_
    refine z_iconst E dX10_bestNet_64 ic_0 ?_
    obtain ⟨_, e4, e⟩ := ob e
    obtain ⟨p5, e6, e⟩ := ob e
    refine z_kR2 (st := []) (av := [.ref a0, .int (0 : Int32)]) E 0 0 (z_rV (st := []) (av := [.int (0 : Int32)]) E Y_X10_fails k_X10_70 (ci := 12) rfl (c_X10_fails (z_El E) e6) dX10_bestNet_65 e4 rfl rfl (by decide) (by decide) (by decide) (by decide) (Nat.zero_le _)) rfl rfl rfl ?_
    rcases oi e with ⟨c7, e⟩ | ⟨c7, e⟩
    · refine z_if_eqT (tgt := 75) E dX10_bestNet_68 rfl (zb_f c7) ?_
      refine z_iload_n E 1 dX10_bestNet_75 rfl ?_
      obtain rfl := Option.some.inj e
      exact z_iret E M dX10_bestNet_76 rfl rfl rfl rfl (by decide) (by decide)
    · refine z_if_eqF (tgt := 75) E dX10_bestNet_68 rfl (zb_nf c7) ?_
      refine z_iconst E dX10_bestNet_71 ic_0 ?_
      refine z_goto (tgt := 76) E dX10_bestNet_72 rfl ?_
      obtain rfl := Option.some.inj e
      exact z_iret E M dX10_bestNet_76 rfl rfl rfl rfl (by decide) (by decide)
  · refine z_if_geF (tgt := 64) E dX10_bestNet_57 rfl c3 ?_
    refine z_iconst E dX10_bestNet_60 ic_1 ?_
    refine z_goto (tgt := 65) E dX10_bestNet_61 rfl ?_
    obtain ⟨_, e8, e⟩ := ob e
    obtain ⟨p9, e10, e⟩ := ob e
    refine z_kR2 (st := []) (av := [.ref a0, .int (1 : Int32)]) E 0 0 (z_rV (st := []) (av := [.int (1 : Int32)]) E Y_X10_fails k_X10_70 (ci := 12) rfl (c_X10_fails (z_El E) e10) dX10_bestNet_65 e8 rfl rfl (by decide) (by decide) (by decide) (by decide) (Nat.zero_le _)) rfl rfl rfl ?_
    rcases oi e with ⟨c11, e⟩ | ⟨c11, e⟩
    · refine z_if_eqT (tgt := 75) E dX10_bestNet_68 rfl (zb_f c11) ?_
      refine z_iload_n E 1 dX10_bestNet_75 rfl ?_
      obtain rfl := Option.some.inj e
      exact z_iret E M dX10_bestNet_76 rfl rfl rfl rfl (by decide) (by decide)
    · refine z_if_eqF (tgt := 75) E dX10_bestNet_68 rfl (zb_nf c11) ?_
      refine z_iconst E dX10_bestNet_71 ic_0 ?_
      refine z_goto (tgt := 76) E dX10_bestNet_72 rfl ?_
      obtain rfl := Option.some.inj e
      exact z_iret E M dX10_bestNet_76 rfl rfl rfl rfl (by decide) (by decide)
theorem c_X10_bestNet {l : Launch} (hl : l.stackTraces = false) {h : PH} {a0 : Nat} {r : (Int32 × PH)} (e : f_X10_bestNet h a0 = some r) : CMet l yX10_bestNet (z_W yX10_bestNet cX10_bestNet 3 (some .int)) rmX10_bestNet h [.ref a0] (.inr (some (.int r.1))) r.2 :=
  z_met hl Y_X10_bestNet (by decide +kernel) (Nat.le_of_ble_eq_true rfl) (fun X hX E T0 M => b_X10_bestNet E T0 e M)
abbrev rmX9_land : Room := { frames := 8, cells := 12, slots := 117, locals := 146 }
noncomputable def f_X9_land (h : PH) (a0 : Nat) : Option ((String ⊕ Int32) × PH) :=
  (gd h a0 11).bind fun _ =>
  (f_X9_change h a0 (8 : Int32) (0 : Int32) (0 : Int32) (0 : Int32)).bind fun p2 =>
  Sum.elim
    (fun E4 =>
    some ((Sum.inl E4), p2.2))
    (fun y6 =>
    some ((Sum.inr y6), p2.2)) p2.1
theorem b_X9_land {X : PX} (E : z_E X cX9_land RX9 "land" 1 rmX9_land (some .int)) (T0 : z_T0 X) {h : PH} {a0 : Nat} {r : ((String ⊕ Int32) × PH)} (e : f_X9_land h a0 = some r) (M : z_M X rmX9_land.cells rmX9_land.slots (zoI r.1) r.2) : WP X 1 0 0 0 [(0, .ref a0)] [] h := by
  unfold f_X9_land at e
  refine z_aload_n E 0 dX9_land_0 rfl ?_
  refine z_bipush E dX9_land_1 bp_8 ?_
  refine z_iconst E dX9_land_3 ic_0 ?_
  refine z_iconst E dX9_land_4 ic_0 ?_
  refine z_iconst E dX9_land_5 ic_0 ?_
  obtain ⟨_, e1, e⟩ := ob e
  obtain ⟨p2, e3, e⟩ := ob e
  rcases os e with ⟨E4, c5, e⟩ | ⟨y6, c5, e⟩
  · obtain rfl := Option.some.inj e
    refine z_kX2 (st := []) (av := [.ref a0, .int (8 : Int32), .int (0 : Int32), .int (0 : Int32), .int (0 : Int32)]) E 12 117 (z_rV (st := []) (av := [.int (8 : Int32), .int (0 : Int32), .int (0 : Int32), .int (0 : Int32)]) E Y_X9_change k_X9_61 (ci := 11) rfl (zc_o (c_X9_change (z_El E) e3) (by rw [c5]; rfl)) dX9_land_6 e1 rfl rfl (by decide) (by decide) (by decide) (by decide) (Nat.zero_le _)) rfl rfl rfl ?_
    exact z_outX E T0 M rfl rfl (by decide) (by decide)
  · refine z_kR2 (st := []) (av := [.ref a0, .int (8 : Int32), .int (0 : Int32), .int (0 : Int32), .int (0 : Int32)]) E 12 117 (z_rV (st := []) (av := [.int (8 : Int32), .int (0 : Int32), .int (0 : Int32), .int (0 : Int32)]) E Y_X9_change k_X9_61 (ci := 11) rfl (zc_o (c_X9_change (z_El E) e3) (by rw [c5]; rfl)) dX9_land_6 e1 rfl rfl (by decide) (by decide) (by decide) (by decide) (Nat.zero_le _)) rfl rfl rfl ?_
    obtain rfl := Option.some.inj e
    exact z_iret E M dX9_land_9 rfl rfl rfl rfl (by decide) (by decide)
theorem c_X9_land {l : Launch} (hl : l.stackTraces = false) {h : PH} {a0 : Nat} {r : ((String ⊕ Int32) × PH)} (e : f_X9_land h a0 = some r) : CMet l yX9_land (z_W yX9_land cX9_land 1 (some .int)) rmX9_land h [.ref a0] (zoI r.1) r.2 :=
  z_met hl Y_X9_land (by decide +kernel) (Nat.le_of_ble_eq_true rfl) (fun X hX E T0 M => b_X9_land E T0 e M)
abbrev rmL_land : Room := { frames := 9, cells := 12, slots := 117, locals := 166 }
noncomputable def f_L_land (h : PH) (a0 : Nat) (a1 : Nat) : Option (Int32 × PH) :=
  (gd h a0 11).bind fun _ =>
  (f_X9_land h a0).bind fun p2 =>
  Sum.elim
    (fun E4 =>
    if E4 = "java/lang/UnsupportedOperationException" then
      some ((1 : Int32), p2.2)
    else none)
    (fun y6 =>
    (asL p2.2 a1 (0 : Int32) y6.toInt64).bind fun h8 =>
    some ((0 : Int32), h8)) p2.1
theorem b_L_land {X : PX} (E : z_E X cL_land RL "land" 3 rmL_land (some .int)) (TT : z_TT X [(0, 8, 11, 15)]) {h : PH} {a0 : Nat} {a1 : Nat} {r : (Int32 × PH)} (e : f_L_land h a0 a1 = some r) (M : z_M X rmL_land.cells rmL_land.slots (.inr (some (.int r.1))) r.2) : WP X 3 0 0 0 [(0, .ref a0), (1, .ref a1)] [] h := by
  unfold f_L_land at e
  refine z_aload_n E 1 dL_land_0 rfl ?_
  refine z_iconst E dL_land_1 ic_0 ?_
  refine z_aload_n E 0 dL_land_2 rfl ?_
  obtain ⟨_, e1, e⟩ := ob e
  obtain ⟨p2, e3, e⟩ := ob e
  rcases os e with ⟨E4, c5, e⟩ | ⟨y6, c5, e⟩
  · rcases oi e with ⟨c7, e⟩ | ⟨c7, e⟩
    · subst c7
      refine z_kX2 (st := [.int (0 : Int32), .ref a1]) (av := [.ref a0]) E 12 117 (z_rV (st := [.int (0 : Int32), .ref a1]) (av := []) E Y_X9_land k_L_92 (ci := 11) rfl (zc_o (c_X9_land (z_El E) e3) (by rw [c5]; rfl)) dL_land_3 e1 rfl rfl (by decide) (by decide) (by decide) (by decide) (Nat.le_of_ble_eq_true rfl)) rfl rfl rfl ?_
      refine z_catch (lv2 := [(0, .ref a0), (1, .ref a1)]) E TT 0 (q := (0, 8, 11, 15)) rfl rfl (by decide) cl_L_15 kb_UnsupportedOperationException (fun z hz => nomatch hz) (Or.inl ⟨_, dL_land_11, rfl, rfl⟩) (by decide) rfl ?_
      refine z_iconst E dL_land_12 ic_1 ?_
      obtain rfl := Option.some.inj e
      exact z_iret E M dL_land_13 rfl rfl rfl rfl (by decide) (by decide)
    cases e
  · refine z_kR2 (st := [.int (0 : Int32), .ref a1]) (av := [.ref a0]) E 12 117 (z_rV (st := [.int (0 : Int32), .ref a1]) (av := []) E Y_X9_land k_L_92 (ci := 11) rfl (zc_o (c_X9_land (z_El E) e3) (by rw [c5]; rfl)) dL_land_3 e1 rfl rfl (by decide) (by decide) (by decide) (by decide) (Nat.le_of_ble_eq_true rfl)) rfl rfl rfl ?_
    refine z_i2l (v := y6.toInt64) E dL_land_6 rfl ?_
    obtain ⟨h8, e9, e⟩ := ob e
    refine z_last E dL_land_7 e9 ?_
    refine z_goto (tgt := 14) E dL_land_8 rfl ?_
    refine z_iconst E dL_land_14 ic_0 ?_
    obtain rfl := Option.some.inj e
    exact z_iret E M dL_land_15 rfl rfl rfl rfl (by decide) (by decide)
theorem c_L_land {l : Launch} (hl : l.stackTraces = false) {h : PH} {a0 : Nat} {a1 : Nat} {r : (Int32 × PH)} (e : f_L_land h a0 a1 = some r) : CMet l yL_land (z_WH yL_land cL_land 3 (some .int) [(0, 8, 11, 15)]) rmL_land h [.ref a0, .ref a1] (.inr (some (.int r.1))) r.2 :=
  z_metH hl Y_L_land (by decide +kernel) (Nat.le_of_ble_eq_true rfl) (fun X hX E T0 M => b_L_land E T0 e M)
abbrev rmX10_choose : Room := { frames := 2, cells := 0, slots := 0, locals := 46 }
noncomputable def f_X10_choose_L16 : Nat → PH → Nat → Int32 → Int32 → Int32 → Int32 → Option Int32
  | 0, _, _, _, _, _, _ => none
  | fu + 1, h, v0, v1, v2, v3, v4 =>
    if v4 ≤ 0 then
      some v3
    else
      (gd h v0 12).bind fun _ =>
      (f_X10_heavy h v0 v4).bind fun p3 =>
      (gd h v0 12).bind fun _ =>
      (f_X10_roomOn h v0 v1).bind fun p6 =>
      if p6 < p3 then
        f_X10_choose_L16 fu h v0 v1 v2 v3 ((v4 - (1 : Int32)) &&& v2)
      else
        (gd h v0 12).bind fun _ =>
        (f_X10_heavy h v0 v3).bind fun p10 =>
        if p10 ≤ p3 then
          (gd h v0 12).bind fun _ =>
          (f_X10_heavy h v0 v3).bind fun p14 =>
          if p14 < p3 then
            f_X10_choose_L16 fu h v0 v1 v2 v4 ((v4 - (1 : Int32)) &&& v2)
          else
            if ((v4 &&& (v4 ^^^ v3)) &&& (-(v4 ^^^ v3))) = 0 then
              f_X10_choose_L16 fu h v0 v1 v2 v3 ((v4 - (1 : Int32)) &&& v2)
            else
              f_X10_choose_L16 fu h v0 v1 v2 v4 ((v4 - (1 : Int32)) &&& v2)
        else
          f_X10_choose_L16 fu h v0 v1 v2 v3 ((v4 - (1 : Int32)) &&& v2)
theorem b_X10_choose_L16 {X : PX} (E : z_E X cX10_choose RX10 "choose" 7 rmX10_choose (some .int)) (T0 : z_T0 X) {k n : Nat} (hk : k + 0 ≤ rmX10_choose.cells) (hn : n + 0 ≤ rmX10_choose.slots) {s : Int32} : ∀ (fu : Nat) (h : PH) (v0 : Nat) (v1 : Int32) (v2 : Int32) (v3 : Int32) (v4 : Int32) (e : f_X10_choose_L16 fu h v0 v1 v2 v3 v4 = some s) (kk : WP X 7 k n 94 [(3, .int s)] [] h), WP X 7 k n 16 [(0, .ref v0), (1, .int v1), (2, .int v2), (3, .int v3), (4, .int v4)] [] h := by
  intro fu
  induction fu with
  | zero => intro h v0 v1 v2 v3 v4 e; exact absurd (show (none : Option Int32) = some s from e) (by intro z; cases z)
  | succ fu ih =>
    intro h v0 v1 v2 v3 v4 e kk
    unfold f_X10_choose_L16 at e
    refine z_iload E 4 dX10_choose_16 rfl ?_
    rcases oi e with ⟨c1, e⟩ | ⟨c1, e⟩
    · refine z_if_leT (tgt := 94) E dX10_choose_18 rfl c1 ?_
      obtain rfl := Option.some.inj e
      exact z_sub [3] rfl kk
    · refine z_if_leF (tgt := 94) E dX10_choose_18 rfl c1 ?_
      refine z_aload_n E 0 dX10_choose_21 rfl ?_
      refine z_iload E 4 dX10_choose_22 rfl ?_
      obtain ⟨_, e2, e⟩ := ob e
      obtain ⟨p3, e4, e⟩ := ob e
      refine z_kR2 (st := []) (av := [.ref v0, .int v4]) E k n (z_rV (st := []) (av := [.int v4]) E Y_X10_heavy k_X10_160 (ci := 12) rfl (c_X10_heavy (z_El E) e4) dX10_choose_24 e2 rfl rfl (by decide) (by decide) (zk (k := k) (a := 0) hk (by decide)) (zk (k := n) (a := 0) hn (by decide)) (Nat.zero_le _)) rfl rfl rfl ?_
      refine z_istore (lv2 := [(5, .int p3), (0, .ref v0), (1, .int v1), (2, .int v2), (3, .int v3), (4, .int v4)]) E dX10_choose_27 (by decide) rfl ?_
      refine z_iload E 0 dX10_choose_29 rfl ?_
      refine z_aload_n E 1 dX10_choose_31 rfl ?_
      refine z_iload_n E 2 dX10_choose_32 rfl ?_
      obtain ⟨_, e5, e⟩ := ob e
      obtain ⟨p6, e7, e⟩ := ob e
      refine z_kR2 (st := [.int p3]) (av := [.ref v0, .int v1]) E k n (z_rV (st := [.int p3]) (av := [.int v1]) E Y_X10_roomOn k_X10_139 (ci := 12) rfl (c_X10_roomOn (z_El E) e7) dX10_choose_33 e5 rfl rfl (by decide) (by decide) (zk (k := k) (a := 0) hk (by decide)) (zk (k := n) (a := 0) hn (by decide)) (Nat.le_of_ble_eq_true rfl)) rfl rfl rfl ?_
      rcases oi e with ⟨c8, e⟩ | ⟨c8, e⟩
      · refine z_icmp_gtT (tgt := 83) E dX10_choose_36 rfl c8 ?_
        refine z_iload E 5 dX10_choose_83 rfl ?_
        refine z_iconst E dX10_choose_85 ic_1 ?_
        refine z_isub E dX10_choose_86 ?_
        refine z_iload_n E 3 dX10_choose_87 rfl ?_
        refine z_iand E dX10_choose_88 ?_
        refine z_istore (lv2 := [(4, .int ((v4 - (1 : Int32)) &&& v2)), (5, .int p3), (0, .ref v0), (1, .int v1), (2, .int v2), (3, .int v3)]) E dX10_choose_89 (by decide) rfl ?_
        refine z_goto (tgt := 16) E dX10_choose_91 rfl ?_
        exact z_sub [2, 3, 4, 5, 0] rfl (ih _ _ _ _ _ _ e kk)
      · refine z_icmp_gtF (tgt := 83) E dX10_choose_36 rfl c8 ?_
        refine z_iload E 0 dX10_choose_39 rfl ?_
        refine z_aload_n E 1 dX10_choose_41 rfl ?_
        refine z_iload_n E 4 dX10_choose_42 rfl ?_
        obtain ⟨_, e9, e⟩ := ob e
        obtain ⟨p10, e11, e⟩ := ob e
        refine z_kR2 (st := [.int p3]) (av := [.ref v0, .int v3]) E k n (z_rV (st := [.int p3]) (av := [.int v3]) E Y_X10_heavy k_X10_160 (ci := 12) rfl (c_X10_heavy (z_El E) e11) dX10_choose_43 e9 rfl rfl (by decide) (by decide) (zk (k := k) (a := 0) hk (by decide)) (zk (k := n) (a := 0) hn (by decide)) (Nat.le_of_ble_eq_true rfl)) rfl rfl rfl ?_
        rcases oi e with ⟨c12, e⟩ | ⟨c12, e⟩
        · refine z_icmp_geT (tgt := 52) E dX10_choose_46 rfl c12 ?_
          refine z_iload E 5 dX10_choose_52 rfl ?_
          refine z_iload_n E 4 dX10_choose_54 rfl ?_
          refine z_ixor E dX10_choose_55 ?_
          refine z_istore (lv2 := [(6, .int (v4 ^^^ v3)), (5, .int p3), (0, .ref v0), (1, .int v1), (2, .int v2), (3, .int v3), (4, .int v4)]) E dX10_choose_56 (by decide) rfl ?_
          refine z_iload E 1 dX10_choose_58 rfl ?_
          refine z_aload_n E 2 dX10_choose_60 rfl ?_
          refine z_iload_n E 5 dX10_choose_61 rfl ?_
          obtain ⟨_, e13, e⟩ := ob e
          obtain ⟨p14, e15, e⟩ := ob e
          refine z_kR2 (st := [.int p3]) (av := [.ref v0, .int v3]) E k n (z_rV (st := [.int p3]) (av := [.int v3]) E Y_X10_heavy k_X10_160 (ci := 12) rfl (c_X10_heavy (z_El E) e15) dX10_choose_62 e13 rfl rfl (by decide) (by decide) (zk (k := k) (a := 0) hk (by decide)) (zk (k := n) (a := 0) hn (by decide)) (Nat.le_of_ble_eq_true rfl)) rfl rfl rfl ?_
          rcases oi e with ⟨c16, e⟩ | ⟨c16, e⟩
          · refine z_icmp_gtT (tgt := 80) E dX10_choose_65 rfl c16 ?_
            refine z_iload E 6 dX10_choose_80 rfl ?_
            refine z_istore_n (lv2 := [(3, .int v4), (6, .int (v4 ^^^ v3)), (5, .int p3), (0, .ref v0), (1, .int v1), (2, .int v2), (4, .int v4)]) E dX10_choose_82 (by decide) rfl ?_
            refine z_iload E 6 dX10_choose_83 rfl ?_
            refine z_iconst E dX10_choose_85 ic_1 ?_
            refine z_isub E dX10_choose_86 ?_
            refine z_iload_n E 5 dX10_choose_87 rfl ?_
            refine z_iand E dX10_choose_88 ?_
            refine z_istore (lv2 := [(4, .int ((v4 - (1 : Int32)) &&& v2)), (3, .int v4), (6, .int (v4 ^^^ v3)), (5, .int p3), (0, .ref v0), (1, .int v1), (2, .int v2)]) E dX10_choose_89 (by decide) rfl ?_
            refine z_goto (tgt := 16) E dX10_choose_91 rfl ?_
            exact z_sub [4, 5, 6, 1, 0] rfl (ih _ _ _ _ _ _ e kk)
          · refine z_icmp_gtF (tgt := 80) E dX10_choose_65 rfl c16 ?_
            refine z_iload E 6 dX10_choose_68 rfl ?_
            refine z_iload E 0 dX10_choose_70 rfl ?_
            refine z_iand E dX10_choose_72 ?_
            refine z_iload E 0 dX10_choose_73 rfl ?_
            refine z_ineg E dX10_choose_75 ?_
            refine z_iand E dX10_choose_76 ?_
            rcases oi e with ⟨c17, e⟩ | ⟨c17, e⟩
            · refine z_if_eqT (tgt := 83) E dX10_choose_77 rfl c17 ?_
              refine z_iload E 6 dX10_choose_83 rfl ?_
              refine z_iconst E dX10_choose_85 ic_1 ?_
              refine z_isub E dX10_choose_86 ?_
              refine z_iload_n E 4 dX10_choose_87 rfl ?_
              refine z_iand E dX10_choose_88 ?_
              refine z_istore (lv2 := [(4, .int ((v4 - (1 : Int32)) &&& v2)), (6, .int (v4 ^^^ v3)), (5, .int p3), (0, .ref v0), (1, .int v1), (2, .int v2), (3, .int v3)]) E dX10_choose_89 (by decide) rfl ?_
              refine z_goto (tgt := 16) E dX10_choose_91 rfl ?_
              exact z_sub [3, 4, 5, 6, 0] rfl (ih _ _ _ _ _ _ e kk)
            · refine z_if_eqF (tgt := 83) E dX10_choose_77 rfl c17 ?_
              refine z_iload E 6 dX10_choose_80 rfl ?_
              refine z_istore_n (lv2 := [(3, .int v4), (6, .int (v4 ^^^ v3)), (5, .int p3), (0, .ref v0), (1, .int v1), (2, .int v2), (4, .int v4)]) E dX10_choose_82 (by decide) rfl ?_
              refine z_iload E 6 dX10_choose_83 rfl ?_
              refine z_iconst E dX10_choose_85 ic_1 ?_
              refine z_isub E dX10_choose_86 ?_
              refine z_iload_n E 5 dX10_choose_87 rfl ?_
              refine z_iand E dX10_choose_88 ?_
              refine z_istore (lv2 := [(4, .int ((v4 - (1 : Int32)) &&& v2)), (3, .int v4), (6, .int (v4 ^^^ v3)), (5, .int p3), (0, .ref v0), (1, .int v1), (2, .int v2)]) E dX10_choose_89 (by decide) rfl ?_
              refine z_goto (tgt := 16) E dX10_choose_91 rfl ?_
              exact z_sub [4, 5, 6, 1, 0] rfl (ih _ _ _ _ _ _ e kk)
        · refine z_icmp_geF (tgt := 52) E dX10_choose_46 rfl c12 ?_
          refine z_goto (tgt := 83) E dX10_choose_49 rfl ?_
          refine z_iload E 5 dX10_choose_83 rfl ?_
          refine z_iconst E dX10_choose_85 ic_1 ?_
          refine z_isub E dX10_choose_86 ?_
          refine z_iload_n E 3 dX10_choose_87 rfl ?_
          refine z_iand E dX10_choose_88 ?_
          refine z_istore (lv2 := [(4, .int ((v4 - (1 : Int32)) &&& v2)), (5, .int p3), (0, .ref v0), (1, .int v1), (2, .int v2), (3, .int v3)]) E dX10_choose_89 (by decide) rfl ?_
          refine z_goto (tgt := 16) E dX10_choose_91 rfl ?_
          exact z_sub [2, 3, 4, 5, 0] rfl (ih _ _ _ _ _ _ e kk)
noncomputable def f_X10_choose (h : PH) (a0 : Nat) (a1 : Int32) : Option Int32 :=
  (gd h a0 12).bind fun _ =>
  (f_X10_those h a0 (1 : Int32)).bind fun p2 =>
  (gd h a0 12).bind fun _ =>
  (f_X10_onPage h a0 a1 p2).bind fun p5 =>
  (f_X10_choose_L16 FV h a0 a1 p5 (0 : Int32) p5).bind fun s7 =>
  some s7
theorem b_X10_choose {X : PX} (E : z_E X cX10_choose RX10 "choose" 7 rmX10_choose (some .int)) (T0 : z_T0 X) {h : PH} {a0 : Nat} {a1 : Int32} {r : Int32} (e : f_X10_choose h a0 a1 = some r) (M : z_M X rmX10_choose.cells rmX10_choose.slots (.inr (some (.int r))) h) : WP X 7 0 0 0 [(0, .ref a0), (1, .int a1)] [] h := by
  unfold f_X10_choose at e
  refine z_aload_n E 0 dX10_choose_0 rfl ?_
  refine z_iload_n E 1 dX10_choose_1 rfl ?_
  refine z_aload_n E 0 dX10_choose_2 rfl ?_
  refine z_iconst E dX10_choose_3 ic_1 ?_
  obtain ⟨_, e1, e⟩ := ob e
  obtain ⟨p2, e3, e⟩ := ob e
  refine z_kR2 (st := [.int a1, .ref a0]) (av := [.ref a0, .int (1 : Int32)]) E 0 0 (z_rV (st := [.int a1, .ref a0]) (av := [.int (1 : Int32)]) E Y_X10_those k_X10_142 (ci := 12) rfl (c_X10_those (z_El E) e3) dX10_choose_4 e1 rfl rfl (by decide) (by decide) (by decide) (by decide) (Nat.le_of_ble_eq_true rfl)) rfl rfl rfl ?_
  obtain ⟨_, e4, e⟩ := ob e
  obtain ⟨p5, e6, e⟩ := ob e
  refine z_kR2 (st := []) (av := [.ref a0, .int a1, .int p2]) E 0 0 (z_rV (st := []) (av := [.int a1, .int p2]) E Y_X10_onPage k_X10_145 (ci := 12) rfl (c_X10_onPage (z_El E) e6) dX10_choose_7 e4 rfl rfl (by decide) (by decide) (by decide) (by decide) (Nat.zero_le _)) rfl rfl rfl ?_
  refine z_istore_n (lv2 := [(2, .int p5), (0, .ref a0), (1, .int a1)]) E dX10_choose_10 (by decide) rfl ?_
  refine z_iconst E dX10_choose_11 ic_0 ?_
  refine z_istore_n (lv2 := [(3, .int (0 : Int32)), (2, .int p5), (0, .ref a0), (1, .int a1)]) E dX10_choose_12 (by decide) rfl ?_
  refine z_iload_n E 1 dX10_choose_13 rfl ?_
  refine z_istore (lv2 := [(4, .int p5), (3, .int (0 : Int32)), (2, .int p5), (0, .ref a0), (1, .int a1)]) E dX10_choose_14 (by decide) rfl ?_
  obtain ⟨s7, e8, e⟩ := ob e
  refine z_sub [3, 4, 2, 1, 0] rfl (b_X10_choose_L16 E T0 (by decide) (by decide) FV _ _ _ _ _ _ e8 ?_)
  refine z_iload_n E 0 dX10_choose_94 rfl ?_
  obtain rfl := Option.some.inj e
  exact z_iret E M dX10_choose_95 rfl rfl rfl rfl (by decide) (by decide)
theorem c_X10_choose {l : Launch} (hl : l.stackTraces = false) {h : PH} {a0 : Nat} {a1 : Int32} {r : Int32} (e : f_X10_choose h a0 a1 = some r) : CMet l yX10_choose (z_W yX10_choose cX10_choose 7 (some .int)) rmX10_choose h [.ref a0, .int a1] (.inr (some (.int r))) h :=
  z_met hl Y_X10_choose (by decide +kernel) (Nat.le_of_ble_eq_true rfl) (fun X hX E T0 M => b_X10_choose E T0 e M)
abbrev rmX10_landing : Room := { frames := 3, cells := 0, slots := 0, locals := 72 }
noncomputable def f_X10_landing_L4 : Nat → PH → Nat → Int32 → Int32 → Option Int32
  | 0, _, _, _, _ => none
  | fu + 1, h, v0, v1, v2 =>
    if (12 : Int32) ≤ v2 then
      some v1
    else
      (gd h v0 12).bind fun _ =>
      (f_X10_choose h v0 v2).bind fun p3 =>
      f_X10_landing_L4 fu h v0 (v1 ||| p3) (v2 + (1 : Int32))
theorem b_X10_landing_L4 {X : PX} (E : z_E X cX10_landing RX10 "landing" 3 rmX10_landing (some .int)) (T0 : z_T0 X) {k n : Nat} (hk : k + 0 ≤ rmX10_landing.cells) (hn : n + 0 ≤ rmX10_landing.slots) {s : Int32} : ∀ (fu : Nat) (h : PH) (v0 : Nat) (v1 : Int32) (v2 : Int32) (e : f_X10_landing_L4 fu h v0 v1 v2 = some s) (kk : WP X 3 k n 24 [(1, .int s)] [] h), WP X 3 k n 4 [(0, .ref v0), (1, .int v1), (2, .int v2)] [] h := by
  intro fu
  induction fu with
  | zero => intro h v0 v1 v2 e; exact absurd (show (none : Option Int32) = some s from e) (by intro z; cases z)
  | succ fu ih =>
    intro h v0 v1 v2 e kk
    unfold f_X10_landing_L4 at e
    refine z_iload_n E 2 dX10_landing_4 rfl ?_
    refine z_bipush E dX10_landing_5 bp_12 ?_
    rcases oi e with ⟨c1, e⟩ | ⟨c1, e⟩
    · refine z_icmp_geT (tgt := 24) E dX10_landing_7 rfl c1 ?_
      obtain rfl := Option.some.inj e
      exact z_sub [1] rfl kk
    · refine z_icmp_geF (tgt := 24) E dX10_landing_7 rfl c1 ?_
      refine z_iload_n E 1 dX10_landing_10 rfl ?_
      refine z_aload_n E 0 dX10_landing_11 rfl ?_
      refine z_iload_n E 2 dX10_landing_12 rfl ?_
      obtain ⟨_, e2, e⟩ := ob e
      obtain ⟨p3, e4, e⟩ := ob e
      refine z_kR2 (st := [.int v1]) (av := [.ref v0, .int v2]) E k n (z_rV (st := [.int v1]) (av := [.int v2]) E Y_X10_choose k_X10_163 (ci := 12) rfl (c_X10_choose (z_El E) e4) dX10_landing_13 e2 rfl rfl (by decide) (by decide) (zk (k := k) (a := 0) hk (by decide)) (zk (k := n) (a := 0) hn (by decide)) (Nat.le_of_ble_eq_true rfl)) rfl rfl rfl ?_
      refine z_ior E dX10_landing_16 ?_
      refine z_istore_n (lv2 := [(1, .int (v1 ||| p3)), (0, .ref v0), (2, .int v2)]) E dX10_landing_17 (by decide) rfl ?_
      refine z_iinc (v := (v2 + (1 : Int32))) (lv2 := [(2, .int (v2 + (1 : Int32))), (1, .int (v1 ||| p3)), (0, .ref v0)]) E 2 dX10_landing_18 rfl (congrArg (v2 + ·) ic_1) (by decide) rfl ?_
      refine z_goto (tgt := 4) E dX10_landing_21 rfl ?_
      exact z_sub [2, 1, 0] rfl (ih _ _ _ _ e kk)
noncomputable def f_X10_landing (h : PH) (a0 : Nat) : Option Int32 :=
  (f_X10_landing_L4 FV h a0 (0 : Int32) (0 : Int32)).bind fun s1 =>
  some s1
theorem b_X10_landing {X : PX} (E : z_E X cX10_landing RX10 "landing" 3 rmX10_landing (some .int)) (T0 : z_T0 X) {h : PH} {a0 : Nat} {r : Int32} (e : f_X10_landing h a0 = some r) (M : z_M X rmX10_landing.cells rmX10_landing.slots (.inr (some (.int r))) h) : WP X 3 0 0 0 [(0, .ref a0)] [] h := by
  unfold f_X10_landing at e
  refine z_iconst E dX10_landing_0 ic_0 ?_
  refine z_istore_n (lv2 := [(1, .int (0 : Int32)), (0, .ref a0)]) E dX10_landing_1 (by decide) rfl ?_
  refine z_iconst E dX10_landing_2 ic_0 ?_
  refine z_istore_n (lv2 := [(2, .int (0 : Int32)), (1, .int (0 : Int32)), (0, .ref a0)]) E dX10_landing_3 (by decide) rfl ?_
  obtain ⟨s1, e2, e⟩ := ob e
  refine z_sub [2, 1, 0] rfl (b_X10_landing_L4 E T0 (by decide) (by decide) FV _ _ _ _ e2 ?_)
  refine z_iload_n E 0 dX10_landing_24 rfl ?_
  obtain rfl := Option.some.inj e
  exact z_iret E M dX10_landing_25 rfl rfl rfl rfl (by decide) (by decide)
theorem c_X10_landing {l : Launch} (hl : l.stackTraces = false) {h : PH} {a0 : Nat} {r : Int32} (e : f_X10_landing h a0 = some r) : CMet l yX10_landing (z_W yX10_landing cX10_landing 3 (some .int)) rmX10_landing h [.ref a0] (.inr (some (.int r))) h :=
  z_met hl Y_X10_landing (by decide +kernel) (Nat.le_of_ble_eq_true rfl) (fun X hX E T0 M => b_X10_landing E T0 e M)
