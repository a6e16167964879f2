abbrev rmX10_execute : Room := { frames := 15, cells := 0, slots := 0, locals := 288 }
noncomputable def f_X10_execute_L62 : Nat → PH → Nat → Int32 → Int32 → Option (Int32 × Int32 × PH)
  | 0, _, _, _, _ => none
  | fu + 1, h, v0, v2, v3 =>
    (rdI h v0 12 19).bind fun x1 =>
    if x1 ≤ v2 then
      some (v2, v3, h)
    else
      (rdI h v0 12 8).bind fun x4 =>
      if ¬ x4 = 0 then
        some (v2, v3, h)
      else
        (gd h v0 12).bind fun _ =>
        (f_X10_carries h v0 ((4 : Int32) * v2)).bind fun p8 =>
        (rdI p8.2 v0 12 8).bind fun x10 =>
        if ¬ x10 = 0 then
          f_X10_execute_L62 fu p8.2 v0 v2 p8.1
        else
          f_X10_execute_L62 fu p8.2 v0 (v2 + (1 : Int32)) p8.1
theorem b_X10_execute_L62 {X : PX} (E : z_E X cX10_execute RX10 "execute" 4 rmX10_execute (some .int)) (T0 : z_T0 X) {k n : Nat} (hk : k + 0 ≤ rmX10_execute.cells) (hn : n + 0 ≤ rmX10_execute.slots) {s : (Int32 × Int32 × PH)} : ∀ (fu : Nat) (h : PH) (v0 : Nat) (v2 : Int32) (v3 : Int32) (e : f_X10_execute_L62 fu h v0 v2 v3 = some s) (kk : WP X 4 k n 98 [(0, .ref v0), (2, .int s.1), (3, .int s.2.1)] [] s.2.2), WP X 4 k n 62 [(0, .ref v0), (2, .int v2), (3, .int v3)] [] h := by
  intro fu
  induction fu with
  | zero => intro h v0 v2 v3 e; exact absurd (show (none : Option (Int32 × Int32 × PH)) = some s from e) (by intro z; cases z)
  | succ fu ih =>
    intro h v0 v2 v3 e kk
    unfold f_X10_execute_L62 at e
    refine z_iload_n E 1 dX10_execute_62 rfl ?_
    refine z_aload_n E 0 dX10_execute_63 rfl ?_
    obtain ⟨x1, e2, e⟩ := ob e
    refine z_getI E fl_X10_184 dX10_execute_64 e2 ?_
    rcases oi e with ⟨c3, e⟩ | ⟨c3, e⟩
    · refine z_icmp_geT (tgt := 98) E dX10_execute_67 rfl c3 ?_
      obtain rfl := Option.some.inj e
      exact z_sub [0, 1, 2] rfl kk
    · refine z_icmp_geF (tgt := 98) E dX10_execute_67 rfl c3 ?_
      refine z_aload_n E 0 dX10_execute_70 rfl ?_
      obtain ⟨x4, e5, e⟩ := ob e
      refine z_getI E fl_X10_36 dX10_execute_71 e5 ?_
      rcases oi e with ⟨c6, e⟩ | ⟨c6, e⟩
      · refine z_if_neT (tgt := 98) E dX10_execute_74 rfl c6 ?_
        obtain rfl := Option.some.inj e
        exact z_sub [0, 1, 2] rfl kk
      · refine z_if_neF (tgt := 98) E dX10_execute_74 rfl (Classical.not_not.mp c6) ?_
        refine z_aload_n E 0 dX10_execute_77 rfl ?_
        refine z_iconst E dX10_execute_78 ic_4 ?_
        refine z_iload_n E 1 dX10_execute_79 rfl ?_
        refine z_imul E dX10_execute_80 ?_
        obtain ⟨_, e7, e⟩ := ob e
        obtain ⟨p8, e9, e⟩ := ob e
        refine z_kR2 (st := []) (av := [.ref v0, .int ((4 : Int32) * v2)]) E k n (z_rV (st := []) (av := [.int ((4 : Int32) * v2)]) E Y_X10_carries k_X10_278 (ci := 12) rfl (c_X10_carries (z_El E) e9) dX10_execute_81 e7 rfl rfl (by decide) (by decide) (zk (k := k) (a := 0) hk (by decide)) (zk (k := n) (a := 0) hn (by decide)) (Nat.zero_le _)) rfl rfl rfl ?_
        refine z_istore_n (lv2 := [(3, .int p8.1), (0, .ref v0), (2, .int v2)]) E dX10_execute_84 (by decide) rfl ?_
        refine z_aload_n E 1 dX10_execute_85 rfl ?_
        obtain ⟨x10, e11, e⟩ := ob e
        refine z_getI E fl_X10_36 dX10_execute_86 e11 ?_
        rcases oi e with ⟨c12, e⟩ | ⟨c12, e⟩
        · refine z_if_neT (tgt := 62) E dX10_execute_89 rfl c12 ?_
          exact z_sub [1, 2, 0] rfl (ih _ _ _ _ e kk)
        · refine z_if_neF (tgt := 62) E dX10_execute_89 rfl (Classical.not_not.mp c12) ?_
          refine z_iinc (v := (v2 + (1 : Int32))) (lv2 := [(2, .int (v2 + (1 : Int32))), (3, .int p8.1), (0, .ref v0)]) E 2 dX10_execute_92 rfl (congrArg (v2 + ·) ic_1) (by decide) rfl ?_
          refine z_goto (tgt := 62) E dX10_execute_95 rfl ?_
          exact z_sub [2, 0, 1] rfl (ih _ _ _ _ e kk)
noncomputable def f_X10_execute_J98 (h : PH) (v0 : Nat) (v2 : Int32) (v3 : Int32) : Option (Int32 × PH) :=
  (wr h v0 12 6 (.int (0 : Int32))).bind fun h1 =>
  (rdI h1 v0 12 8).bind fun x3 =>
  if x3 ≤ 0 then
    (rdR h1 v0 12 3).bind fun x6 =>
    (gd h1 v0 12).bind fun _ =>
    (f_X10_keeps h1 v0 x6).bind fun p9 =>
    (rdI p9 v0 12 19).bind fun x11 =>
    some (x11, p9)
  else
    (rdR h1 v0 12 3).bind fun x13 =>
    (rdR h1 v0 12 0).bind fun x15 =>
    (f_X10_copies h1 x13 (0 : Int32) x15 (0 : Int32)).bind fun p17 =>
    (gd p17 v0 12).bind fun _ =>
    (f_X10_deniesText p17 v0 v2).bind fun p20 =>
    if v3 ≤ 0 then
      some ((p20.1 + v3), p20.2)
    else
      some ((p20.1 + (0 : Int32)), p20.2)
theorem b_X10_execute_J98 {X : PX} (E : z_E X cX10_execute RX10 "execute" 4 rmX10_execute (some .int)) (T0 : z_T0 X) {k n : Nat} (hk : k + 0 ≤ rmX10_execute.cells) (hn : n + 0 ≤ rmX10_execute.slots) {h : PH} {v0 : Nat} {v2 : Int32} {v3 : Int32} {r : (Int32 × PH)} (e : f_X10_execute_J98 h v0 v2 v3 = some r) (M : z_M X rmX10_execute.cells rmX10_execute.slots (.inr (some (.int r.1))) r.2) : WP X 4 k n 98 [(0, .ref v0), (2, .int v2), (3, .int v3)] [] h := by
  unfold f_X10_execute_J98 at e
  refine z_aload_n E 0 dX10_execute_98 rfl ?_
  refine z_iconst E dX10_execute_99 ic_0 ?_
  obtain ⟨h1, e2, e⟩ := ob e
  refine z_putV E fp_X10_52 (Or.inl rfl) dX10_execute_100 e2 (fun _ => ⟨rfl, rfl⟩) ?_
  refine z_aload_n E 0 dX10_execute_103 rfl ?_
  obtain ⟨x3, e4, e⟩ := ob e
  refine z_getI E fl_X10_36 dX10_execute_104 e4 ?_
  rcases oi e with ⟨c5, e⟩ | ⟨c5, e⟩
  · refine z_if_leT (tgt := 139) E dX10_execute_107 rfl c5 ?_
    refine z_aload_n E 0 dX10_execute_139 rfl ?_
    refine z_aload_n E 0 dX10_execute_140 rfl ?_
    obtain ⟨x6, e7, e⟩ := ob e
    refine z_getR E fl_X10_19 dX10_execute_141 e7 ?_
    obtain ⟨_, e8, e⟩ := ob e
    obtain ⟨p9, e10, e⟩ := ob e
    refine z_kV2 (st := []) (av := [.ref v0, .ref x6]) E k n (z_rV (st := []) (av := [.ref x6]) E Y_X10_keeps k_X10_84 (ci := 12) rfl (c_X10_keeps (z_El E) e10) dX10_execute_144 e8 rfl rfl (by decide) (by decide) (zk (k := k) (a := 0) hk (by decide)) (zk (k := n) (a := 0) hn (by decide)) (Nat.zero_le _)) rfl rfl rfl ?_
    refine z_aload_n E 0 dX10_execute_147 rfl ?_
    obtain ⟨x11, e12, e⟩ := ob e
    refine z_getI E fl_X10_184 dX10_execute_148 e12 ?_
    obtain rfl := Option.some.inj e
    exact z_iret E M dX10_execute_151 rfl rfl rfl rfl (zk (k := k) (a := 0) hk (by decide)) (zk (k := n) (a := 0) hn (by decide))
  · refine z_if_leF (tgt := 139) E dX10_execute_107 rfl c5 ?_
    refine z_aload_n E 0 dX10_execute_110 rfl ?_
    obtain ⟨x13, e14, e⟩ := ob e
    refine z_getR E fl_X10_19 dX10_execute_111 e14 ?_
    refine z_iconst E dX10_execute_114 ic_0 ?_
    refine z_aload_n E 0 dX10_execute_115 rfl ?_
    obtain ⟨x15, e16, e⟩ := ob e
    refine z_getR E fl_X10_7 dX10_execute_116 e16 ?_
    refine z_iconst E dX10_execute_119 ic_0 ?_
    obtain ⟨p17, e18, e⟩ := ob e
    refine z_kV2 (st := []) (av := [.ref x13, .int (0 : Int32), .ref x15, .int (0 : Int32)]) E k n (z_rS (st := []) (av := [.ref x13, .int (0 : Int32), .ref x15, .int (0 : Int32)]) E Y_X10_copies k_X10_58 (c_X10_copies (z_El E) e18) dX10_execute_120 rfl rfl (by decide) (by decide) (zk (k := k) (a := 0) hk (by decide)) (zk (k := n) (a := 0) hn (by decide)) (Nat.zero_le _)) rfl rfl rfl ?_
    refine z_aload_n E 0 dX10_execute_123 rfl ?_
    refine z_iload_n E 1 dX10_execute_124 rfl ?_
    obtain ⟨_, e19, e⟩ := ob e
    obtain ⟨p20, e21, e⟩ := ob e
    refine z_kR2 (st := []) (av := [.ref v0, .int v2]) E k n (z_rV (st := []) (av := [.int v2]) E Y_X10_deniesText k_X10_281 (ci := 12) rfl (c_X10_deniesText (z_El E) e21) dX10_execute_125 e19 rfl rfl (by decide) (by decide) (zk (k := k) (a := 0) hk (by decide)) (zk (k := n) (a := 0) hn (by decide)) (Nat.zero_le _)) rfl rfl rfl ?_
    refine z_iload_n E 2 dX10_execute_128 rfl ?_
    rcases oi e with ⟨c22, e⟩ | ⟨c22, e⟩
    · refine z_if_leT (tgt := 136) E dX10_execute_129 rfl c22 ?_
      refine z_iload_n E 2 dX10_execute_136 rfl ?_
      refine z_iadd E dX10_execute_137 ?_
      obtain rfl := Option.some.inj e
      exact z_iret E M dX10_execute_138 rfl rfl rfl rfl (zk (k := k) (a := 0) hk (by decide)) (zk (k := n) (a := 0) hn (by decide))
    · refine z_if_leF (tgt := 136) E dX10_execute_129 rfl c22 ?_
      refine z_iconst E dX10_execute_132 ic_0 ?_
      refine z_goto (tgt := 137) E dX10_execute_133 rfl ?_
      refine z_iadd E dX10_execute_137 ?_
      obtain rfl := Option.some.inj e
      exact z_iret E M dX10_execute_138 rfl rfl rfl rfl (zk (k := k) (a := 0) hk (by decide)) (zk (k := n) (a := 0) hn (by decide))
noncomputable def f_X10_execute_J32 (h : PH) (v0 : Nat) (w0 : Int32) (w1 : Nat) : Option (Int32 × PH) :=
  (gd h w1 12).bind fun _ =>
  (f_X10_fails h w1 w0).bind fun p2 =>
  if p2.1 = false then
    (rdR p2.2 v0 12 0).bind fun x5 =>
    (rdR p2.2 v0 12 3).bind fun x7 =>
    (f_X10_copies p2.2 x5 (0 : Int32) x7 (0 : Int32)).bind fun p9 =>
    (wr p9 v0 12 6 (.int (1 : Int32))).bind fun h11 =>
    (f_X10_execute_L62 FV h11 v0 (0 : Int32) (0 : Int32)).bind fun s13 =>
    f_X10_execute_J98 s13.2.2 v0 s13.1 s13.2.1
  else
    some ((0 : Int32), p2.2)
theorem b_X10_execute_J32 {X : PX} (E : z_E X cX10_execute RX10 "execute" 4 rmX10_execute (some .int)) (T0 : z_T0 X) {k n : Nat} (hk : k + 0 ≤ rmX10_execute.cells) (hn : n + 0 ≤ rmX10_execute.slots) {h : PH} {v0 : Nat} {w0 : Int32} {w1 : Nat} {r : (Int32 × PH)} (e : f_X10_execute_J32 h v0 w0 w1 = some r) (M : z_M X rmX10_execute.cells rmX10_execute.slots (.inr (some (.int r.1))) r.2) : WP X 4 k n 32 [(0, .ref v0)] [.int w0, .ref w1] h := by
  unfold f_X10_execute_J32 at e
  obtain ⟨_, e1, e⟩ := ob e
  obtain ⟨p2, e3, e⟩ := ob e
  refine z_kR2 (st := []) (av := [.ref w1, .int w0]) E k n (z_rV (st := []) (av := [.int w0]) E Y_X10_fails k_X10_70 (ci := 12) rfl (c_X10_fails (z_El E) e3) dX10_execute_32 e1 rfl rfl (by decide) (by decide) (zk (k := k) (a := 0) hk (by decide)) (zk (k := n) (a := 0) hn (by decide)) (Nat.zero_le _)) rfl rfl rfl ?_
  rcases oi e with ⟨c4, e⟩ | ⟨c4, e⟩
  · refine z_if_eqT (tgt := 40) E dX10_execute_35 rfl (zb_f c4) ?_
    refine z_aload_n E 0 dX10_execute_40 rfl ?_
    obtain ⟨x5, e6, e⟩ := ob e
    refine z_getR E fl_X10_7 dX10_execute_41 e6 ?_
    refine z_iconst E dX10_execute_44 ic_0 ?_
    refine z_aload_n E 0 dX10_execute_45 rfl ?_
    obtain ⟨x7, e8, e⟩ := ob e
    refine z_getR E fl_X10_19 dX10_execute_46 e8 ?_
    refine z_iconst E dX10_execute_49 ic_0 ?_
    obtain ⟨p9, e10, e⟩ := ob e
    refine z_kV2 (st := []) (av := [.ref x5, .int (0 : Int32), .ref x7, .int (0 : Int32)]) E k n (z_rS (st := []) (av := [.ref x5, .int (0 : Int32), .ref x7, .int (0 : Int32)]) E Y_X10_copies k_X10_58 (c_X10_copies (z_El E) e10) dX10_execute_50 rfl rfl (by decide) (by decide) (zk (k := k) (a := 0) hk (by decide)) (zk (k := n) (a := 0) hn (by decide)) (Nat.zero_le _)) rfl rfl rfl ?_
    refine z_aload_n E 0 dX10_execute_53 rfl ?_
    refine z_iconst E dX10_execute_54 ic_1 ?_
    obtain ⟨h11, e12, e⟩ := ob e
    refine z_putV E fp_X10_52 (Or.inl rfl) dX10_execute_55 e12 (fun _ => ⟨rfl, rfl⟩) ?_
    refine z_iconst E dX10_execute_58 ic_0 ?_
    refine z_istore_n (lv2 := [(2, .int (0 : Int32)), (0, .ref v0)]) E dX10_execute_59 (by decide) rfl ?_
    refine z_iconst E dX10_execute_60 ic_0 ?_
    refine z_istore_n (lv2 := [(3, .int (0 : Int32)), (2, .int (0 : Int32)), (0, .ref v0)]) E dX10_execute_61 (by decide) rfl ?_
    obtain ⟨s13, e14, e⟩ := ob e
    refine z_sub [2, 1, 0] rfl (b_X10_execute_L62 E T0 (zk (k := k) (a := 0) hk (by decide)) (zk (k := n) (a := 0) hn (by decide)) FV _ _ _ _ e14 ?_)
    exact z_sub [0, 1, 2] rfl (b_X10_execute_J98 E T0 (zk (k := k) (a := 0) hk (by decide)) (zk (k := n) (a := 0) hn (by decide)) e M)
  · refine z_if_eqF (tgt := 40) E dX10_execute_35 rfl (zb_nf c4) ?_
    refine z_iconst E dX10_execute_38 ic_0 ?_
    obtain rfl := Option.some.inj e
    exact z_iret E M dX10_execute_39 rfl rfl rfl rfl (zk (k := k) (a := 0) hk (by decide)) (zk (k := n) (a := 0) hn (by decide))
noncomputable def f_X10_execute_J17 (h : PH) (v0 : Nat) (v1 : Int32) : Option (Int32 × PH) :=
  (wr h v0 12 13 (.int (0 : Int32))).bind fun h1 =>
  if v1 = 0 then
    f_X10_execute_J32 h1 v0 (1 : Int32) v0
  else
    f_X10_execute_J32 h1 v0 (0 : Int32) v0
theorem b_X10_execute_J17 {X : PX} (E : z_E X cX10_execute RX10 "execute" 4 rmX10_execute (some .int)) (T0 : z_T0 X) {k n : Nat} (hk : k + 0 ≤ rmX10_execute.cells) (hn : n + 0 ≤ rmX10_execute.slots) {h : PH} {v0 : Nat} {v1 : Int32} {r : (Int32 × PH)} (e : f_X10_execute_J17 h v0 v1 = some r) (M : z_M X rmX10_execute.cells rmX10_execute.slots (.inr (some (.int r.1))) r.2) : WP X 4 k n 17 [(0, .ref v0), (1, .int v1)] [] h := by
  unfold f_X10_execute_J17 at e
  refine z_aload_n E 0 dX10_execute_17 rfl ?_
  refine z_iconst E dX10_execute_18 ic_0 ?_
  obtain ⟨h1, e2, e⟩ := ob e
  refine z_putI E fp_X10_175 (Or.inl rfl) dX10_execute_19 e2 ?_
  refine z_aload_n E 0 dX10_execute_22 rfl ?_
  refine z_iload_n E 1 dX10_execute_23 rfl ?_
  rcases oi e with ⟨c3, e⟩ | ⟨c3, e⟩
  · refine z_if_eqT (tgt := 31) E dX10_execute_24 rfl c3 ?_
    refine z_iconst E dX10_execute_31 ic_1 ?_
    exact z_sub [0] rfl (b_X10_execute_J32 E T0 (zk (k := k) (a := 0) hk (by decide)) (zk (k := n) (a := 0) hn (by decide)) e M)
  · refine z_if_eqF (tgt := 31) E dX10_execute_24 rfl c3 ?_
    refine z_iconst E dX10_execute_27 ic_0 ?_
    refine z_goto (tgt := 32) E dX10_execute_28 rfl ?_
    exact z_sub [0] rfl (b_X10_execute_J32 E T0 (zk (k := k) (a := 0) hk (by decide)) (zk (k := n) (a := 0) hn (by decide)) e M)
noncomputable def f_X10_execute (h : PH) (a0 : Nat) : Option (Int32 × PH) :=
  (gd h a0 12).bind fun _ =>
  (f_X10_isText h a0).bind fun p2 =>
  if p2.1 = true then
    f_X10_execute_J17 p2.2 a0 (zb p2.1)
  else
    (rdI p2.2 a0 12 17).bind fun x5 =>
    (wr p2.2 a0 12 14 (.int x5)).bind fun h7 =>
    f_X10_execute_J17 h7 a0 (zb p2.1)
theorem b_X10_execute {X : PX} (E : z_E X cX10_execute RX10 "execute" 4 rmX10_execute (some .int)) (T0 : z_T0 X) {h : PH} {a0 : Nat} {r : (Int32 × PH)} (e : f_X10_execute h a0 = some r) (M : z_M X rmX10_execute.cells rmX10_execute.slots (.inr (some (.int r.1))) r.2) : WP X 4 0 0 0 [(0, .ref a0)] [] h := by
  unfold f_X10_execute at e
  refine z_aload_n E 0 dX10_execute_0 rfl ?_
  obtain ⟨_, e1, e⟩ := ob e
  obtain ⟨p2, e3, e⟩ := ob e
  refine z_kR2 (st := []) (av := [.ref a0]) E 0 0 (z_rV (st := []) (av := []) E Y_X10_isText k_X10_275 (ci := 12) rfl (c_X10_isText (z_El E) e3) dX10_execute_1 e1 rfl rfl (by decide) (by decide) (by decide) (by decide) (Nat.zero_le _)) rfl rfl rfl ?_
  refine z_istore_n (lv2 := [(1, .int (zb p2.1)), (0, .ref a0)]) E dX10_execute_4 (by decide) rfl ?_
  refine z_iload_n E 0 dX10_execute_5 rfl ?_
  rcases oi e with ⟨c4, e⟩ | ⟨c4, e⟩
  · refine z_if_neT (tgt := 17) E dX10_execute_6 rfl (zb_t c4) ?_
    exact z_sub [1, 0] rfl (b_X10_execute_J17 E T0 (by decide) (by decide) e M)
  · refine z_if_neF (tgt := 17) E dX10_execute_6 rfl (zb_nt c4) ?_
    refine z_aload_n E 1 dX10_execute_9 rfl ?_
    refine z_aload_n E 1 dX10_execute_10 rfl ?_
    obtain ⟨x5, e6, e⟩ := ob e
    refine z_getI E fl_X10_178 dX10_execute_11 e6 ?_
    obtain ⟨h7, e8, e⟩ := ob e
    refine z_putI E fp_X10_25 (Or.inl rfl) dX10_execute_14 e8 ?_
    exact z_sub [1, 0] rfl (b_X10_execute_J17 E T0 (by decide) (by decide) e M)
theorem c_X10_execute {l : Launch} (hl : l.stackTraces = false) {h : PH} {a0 : Nat} {r : (Int32 × PH)} (e : f_X10_execute h a0 = some r) : CMet l yX10_execute (z_W yX10_execute cX10_execute 4 (some .int)) rmX10_execute h [.ref a0] (.inr (some (.int r.1))) r.2 :=
  z_met hl Y_X10_execute (by decide +kernel) (Nat.le_of_ble_eq_true rfl) (fun X hX E T0 M => b_X10_execute E T0 e M)
abbrev rmX9_faultPosition : Room := { frames := 6, cells := 1, slots := 6, locals := 92 }
noncomputable def f_X9_faultPosition (h : PH) (a0 : Nat) : Option (String ⊕ Int32) :=
  (rdR h a0 11 5).bind fun x1 =>
  (rdI h x1 10 2).bind fun x3 =>
  if 0 ≤ x3 then
    (rdR h a0 11 5).bind fun x6 =>
    (rdI h x6 10 2).bind fun x8 =>
    some (Sum.inr x8)
  else
    some (Sum.inl "java/util/NoSuchElementException")
theorem b_X9_faultPosition {X : PX} (E : z_E X cX9_faultPosition RX9 "faultPosition" 1 rmX9_faultPosition (some .int)) (T0 : z_T0 X) {h : PH} {a0 : Nat} {r : (String ⊕ Int32)} (e : f_X9_faultPosition h a0 = some r) (M : z_M X rmX9_faultPosition.cells rmX9_faultPosition.slots (zoI r) h) : WP X 1 0 0 0 [(0, .ref a0)] [] h := by
  unfold f_X9_faultPosition at e
  refine z_aload_n E 0 dX9_faultPosition_0 rfl ?_
  obtain ⟨x1, e2, e⟩ := ob e
  refine z_getR E fl_X9_43 dX9_faultPosition_1 e2 ?_
  obtain ⟨x3, e4, e⟩ := ob e
  refine z_getI E fl_X9_259 dX9_faultPosition_4 e4 ?_
  rcases oi e with ⟨c5, e⟩ | ⟨c5, e⟩
  · refine z_if_geT (tgt := 21) E dX9_faultPosition_7 rfl c5 ?_
    refine z_aload_n E 0 dX9_faultPosition_21 rfl ?_
    obtain ⟨x6, e7, e⟩ := ob e
    refine z_getR E fl_X9_43 dX9_faultPosition_22 e7 ?_
    obtain ⟨x8, e9, e⟩ := ob e
    refine z_getI E fl_X9_259 dX9_faultPosition_25 e9 ?_
    obtain rfl := Option.some.inj e
    exact z_iret E M dX9_faultPosition_28 rfl rfl rfl rfl (by decide) (by decide)
  · refine z_if_geF (tgt := 21) E dX9_faultPosition_7 rfl c5 ?_
    obtain rfl := Option.some.inj e
    exact z_throw E 7 th_X9_120_262_124 T0 M dX9_faultPosition_10 dX9_faultPosition_13 (Or.inr ⟨dX9_faultPosition_14, rfl⟩) dX9_faultPosition_17 dX9_faultPosition_20 rfl rfl (by decide) (Nat.le_of_ble_eq_true rfl) (by decide) (by decide) (by decide) (by decide)
theorem c_X9_faultPosition {l : Launch} (hl : l.stackTraces = false) {h : PH} {a0 : Nat} {r : (String ⊕ Int32)} (e : f_X9_faultPosition h a0 = some r) : CMet l yX9_faultPosition (z_W yX9_faultPosition cX9_faultPosition 1 (some .int)) rmX9_faultPosition h [.ref a0] (zoI r) h :=
  z_met hl Y_X9_faultPosition (by decide +kernel) (Nat.le_of_ble_eq_true rfl) (fun X hX E T0 M => b_X9_faultPosition E T0 e M)
abbrev rmL_faultPosition : Room := { frames := 7, cells := 1, slots := 6, locals := 112 }
noncomputable def f_L_faultPosition (h : PH) (a0 : Nat) (a1 : Nat) : Option (Int32 × PH) :=
  (gd h a0 11).bind fun _ =>
  (f_X9_faultPosition h a0).bind fun p2 =>
  Sum.elim
    (fun E4 =>
    if E4 = "java/util/NoSuchElementException" then
      some ((1 : Int32), h)
    else none)
    (fun y6 =>
    (asL h a1 (0 : Int32) y6.toInt64).bind fun h8 =>
    some ((0 : Int32), h8)) p2
theorem b_L_faultPosition {X : PX} (E : z_E X cL_faultPosition RL "faultPosition" 3 rmL_faultPosition (some .int)) (TT : z_TT X [(0, 8, 11, 20)]) {h : PH} {a0 : Nat} {a1 : Nat} {r : (Int32 × PH)} (e : f_L_faultPosition h a0 a1 = some r) (M : z_M X rmL_faultPosition.cells rmL_faultPosition.slots (.inr (some (.int r.1))) r.2) : WP X 3 0 0 0 [(0, .ref a0), (1, .ref a1)] [] h := by
  unfold f_L_faultPosition at e
  refine z_aload_n E 1 dL_faultPosition_0 rfl ?_
  refine z_iconst E dL_faultPosition_1 ic_0 ?_
  refine z_aload_n E 0 dL_faultPosition_2 rfl ?_
  obtain ⟨_, e1, e⟩ := ob e
  obtain ⟨p2, e3, e⟩ := ob e
  rcases os e with ⟨E4, c5, e⟩ | ⟨y6, c5, e⟩
  · rcases oi e with ⟨c7, e⟩ | ⟨c7, e⟩
    · subst c7
      refine z_kX2 (st := [.int (0 : Int32), .ref a1]) (av := [.ref a0]) E 1 6 (z_rV (st := [.int (0 : Int32), .ref a1]) (av := []) E Y_X9_faultPosition k_L_127 (ci := 11) rfl (zc_o (c_X9_faultPosition (z_El E) e3) (by rw [c5]; rfl)) dL_faultPosition_3 e1 rfl rfl (by decide) (by decide) (by decide) (by decide) (Nat.le_of_ble_eq_true rfl)) rfl rfl rfl ?_
      refine z_catch (lv2 := [(0, .ref a0), (1, .ref a1)]) E TT 0 (q := (0, 8, 11, 20)) rfl rfl (by decide) cl_L_20 kb_NoSuchElementException (fun z hz => nomatch hz) (Or.inl ⟨_, dL_faultPosition_11, rfl, rfl⟩) (by decide) rfl ?_
      refine z_iconst E dL_faultPosition_12 ic_1 ?_
      obtain rfl := Option.some.inj e
      exact z_iret E M dL_faultPosition_13 rfl rfl rfl rfl (by decide) (by decide)
    cases e
  · refine z_kR2 (st := [.int (0 : Int32), .ref a1]) (av := [.ref a0]) E 1 6 (z_rV (st := [.int (0 : Int32), .ref a1]) (av := []) E Y_X9_faultPosition k_L_127 (ci := 11) rfl (zc_o (c_X9_faultPosition (z_El E) e3) (by rw [c5]; rfl)) dL_faultPosition_3 e1 rfl rfl (by decide) (by decide) (by decide) (by decide) (Nat.le_of_ble_eq_true rfl)) rfl rfl rfl ?_
    refine z_i2l (v := y6.toInt64) E dL_faultPosition_6 rfl ?_
    obtain ⟨h8, e9, e⟩ := ob e
    refine z_last E dL_faultPosition_7 e9 ?_
    refine z_goto (tgt := 14) E dL_faultPosition_8 rfl ?_
    refine z_iconst E dL_faultPosition_14 ic_0 ?_
    obtain rfl := Option.some.inj e
    exact z_iret E M dL_faultPosition_15 rfl rfl rfl rfl (by decide) (by decide)
theorem c_L_faultPosition {l : Launch} (hl : l.stackTraces = false) {h : PH} {a0 : Nat} {a1 : Nat} {r : (Int32 × PH)} (e : f_L_faultPosition h a0 a1 = some r) : CMet l yL_faultPosition (z_WH yL_faultPosition cL_faultPosition 3 (some .int) [(0, 8, 11, 20)]) rmL_faultPosition h [.ref a0, .ref a1] (.inr (some (.int r.1))) r.2 :=
  z_metH hl Y_L_faultPosition (by decide +kernel) (Nat.le_of_ble_eq_true rfl) (fun X hX E T0 M => b_L_faultPosition E T0 e M)
abbrev rmX10_faultPosition : Room := { frames := 1, cells := 0, slots := 0, locals := 21 }
noncomputable def f_X10_faultPosition (h : PH) (a0 : Nat) : Option (Int32 × PH) :=
  (rdI h a0 12 14).bind fun x1 =>
  if 0 ≤ x1 then
    (gd h a0 12).bind fun _ =>
    (f_X10_fails h a0 (0 : Int32)).bind fun p5 =>
    if p5.1 = false then
      (rdI p5.2 a0 12 14).bind fun x8 =>
      some (x8, p5.2)
    else
      some ((0 : Int32), p5.2)
  else
    (gd h a0 12).bind fun _ =>
    (f_X10_fails h a0 (1 : Int32)).bind fun p11 =>
    if p11.1 = false then
      (rdI p11.2 a0 12 14).bind fun x14 =>
      some (x14, p11.2)
    else
      some ((0 : Int32), p11.2)
theorem b_X10_faultPosition {X : PX} (E : z_E X cX10_faultPosition RX10 "faultPosition" 1 rmX10_faultPosition (some .int)) (T0 : z_T0 X) {h : PH} {a0 : Nat} {r : (Int32 × PH)} (e : f_X10_faultPosition h a0 = some r) (M : z_M X rmX10_faultPosition.cells rmX10_faultPosition.slots (.inr (some (.int r.1))) r.2) : WP X 1 0 0 0 [(0, .ref a0)] [] h := by
  unfold f_X10_faultPosition at e
  refine z_aload_n E 0 dX10_faultPosition_0 rfl ?_
  refine z_aload_n E 0 dX10_faultPosition_1 rfl ?_
  obtain ⟨x1, e2, e⟩ := ob e
  refine z_getI E fl_X10_25 dX10_faultPosition_2 e2 ?_
  rcases oi e with ⟨c3, e⟩ | ⟨c3, e⟩
  · refine z_if_geT (tgt := 12) E dX10_faultPosition_5 rfl c3 ?_
    refine z_iconst E dX10_faultPosition_12 ic_0 ?_
    obtain ⟨_, e4, e⟩ := ob e
    obtain ⟨p5, e6, e⟩ := ob e
    refine z_kR2 (st := []) (av := [.ref a0, .int (0 : Int32)]) E 0 0 (z_rV (st := []) (av := [.int (0 : Int32)]) E Y_X10_fails k_X10_70 (ci := 12) rfl (c_X10_fails (z_El E) e6) dX10_faultPosition_13 e4 rfl rfl (by decide) (by decide) (by decide) (by decide) (Nat.zero_le _)) rfl rfl rfl ?_
    rcases oi e with ⟨c7, e⟩ | ⟨c7, e⟩
    · refine z_if_eqT (tgt := 23) E dX10_faultPosition_16 rfl (zb_f c7) ?_
      refine z_aload_n E 0 dX10_faultPosition_23 rfl ?_
      obtain ⟨x8, e9, e⟩ := ob e
      refine z_getI E fl_X10_25 dX10_faultPosition_24 e9 ?_
      obtain rfl := Option.some.inj e
      exact z_iret E M dX10_faultPosition_27 rfl rfl rfl rfl (by decide) (by decide)
    · refine z_if_eqF (tgt := 23) E dX10_faultPosition_16 rfl (zb_nf c7) ?_
      refine z_iconst E dX10_faultPosition_19 ic_0 ?_
      refine z_goto (tgt := 27) E dX10_faultPosition_20 rfl ?_
      obtain rfl := Option.some.inj e
      exact z_iret E M dX10_faultPosition_27 rfl rfl rfl rfl (by decide) (by decide)
  · refine z_if_geF (tgt := 12) E dX10_faultPosition_5 rfl c3 ?_
    refine z_iconst E dX10_faultPosition_8 ic_1 ?_
    refine z_goto (tgt := 13) E dX10_faultPosition_9 rfl ?_
    obtain ⟨_, e10, e⟩ := ob e
    obtain ⟨p11, e12, e⟩ := ob e
    refine z_kR2 (st := []) (av := [.ref a0, .int (1 : Int32)]) E 0 0 (z_rV (st := []) (av := [.int (1 : Int32)]) E Y_X10_fails k_X10_70 (ci := 12) rfl (c_X10_fails (z_El E) e12) dX10_faultPosition_13 e10 rfl rfl (by decide) (by decide) (by decide) (by decide) (Nat.zero_le _)) rfl rfl rfl ?_
    rcases oi e with ⟨c13, e⟩ | ⟨c13, e⟩
    · refine z_if_eqT (tgt := 23) E dX10_faultPosition_16 rfl (zb_f c13) ?_
      refine z_aload_n E 0 dX10_faultPosition_23 rfl ?_
      obtain ⟨x14, e15, e⟩ := ob e
      refine z_getI E fl_X10_25 dX10_faultPosition_24 e15 ?_
      obtain rfl := Option.some.inj e
      exact z_iret E M dX10_faultPosition_27 rfl rfl rfl rfl (by decide) (by decide)
    · refine z_if_eqF (tgt := 23) E dX10_faultPosition_16 rfl (zb_nf c13) ?_
      refine z_iconst E dX10_faultPosition_19 ic_0 ?_
      refine z_goto (tgt := 27) E dX10_faultPosition_20 rfl ?_
      obtain rfl := Option.some.inj e
      exact z_iret E M dX10_faultPosition_27 rfl rfl rfl rfl (by decide) (by decide)
theorem c_X10_faultPosition {l : Launch} (hl : l.stackTraces = false) {h : PH} {a0 : Nat} {r : (Int32 × PH)} (e : f_X10_faultPosition h a0 = some r) : CMet l yX10_faultPosition (z_W yX10_faultPosition cX10_faultPosition 1 (some .int)) rmX10_faultPosition h [.ref a0] (.inr (some (.int r.1))) r.2 :=
  z_met hl Y_X10_faultPosition (by decide +kernel) (Nat.le_of_ble_eq_true rfl) (fun X hX E T0 M => b_X10_faultPosition E T0 e M)
abbrev rmJ8_newLength_cabcc : Room := { frames := 1, cells := 0, slots := 0, locals := 21 }
noncomputable def f_J8_newLength_cabcc (a0 : Int32) (a1 : Int32) (a2 : Int32) : Option Int32 :=
  if (a0 + (f_J9_max_7cf53 a1 a2)) ≤ (0 : Int32) then
    none
  else
    if (2147483639 : Int32) < (a0 + (f_J9_max_7cf53 a1 a2)) then
      none
    else
      some (a0 + (f_J9_max_7cf53 a1 a2))
theorem b_J8_newLength_cabcc {X : PX} (E : z_E X cJ8_newLength_cabcc RJ8 "newLength" 4 rmJ8_newLength_cabcc (some .int)) (T0 : z_T0 X) {h : PH} {a0 : Int32} {a1 : Int32} {a2 : Int32} {r : Int32} (e : f_J8_newLength_cabcc a0 a1 a2 = some r) (M : z_M X rmJ8_newLength_cabcc.cells rmJ8_newLength_cabcc.slots (.inr (some (.int r))) h) : WP X 4 0 0 0 [(0, .int a0), (1, .int a1), (2, .int a2)] [] h := by
  unfold f_J8_newLength_cabcc at e
  refine z_iload_n E 0 dJ8_newLength_cabcc_0 rfl ?_
  refine z_iload_n E 1 dJ8_newLength_cabcc_1 rfl ?_
  refine z_iload_n E 2 dJ8_newLength_cabcc_2 rfl ?_
  refine z_kR2 (st := [.int a0]) (av := [.int a1, .int a2]) E 0 0 (z_rS (st := [.int a0]) (av := [.int a1, .int a2]) E Y_J9_max_7cf53 k_J8_194 (c_J9_max_7cf53 (l := z_l X) (h := h) (z_El E) a1 a2) dJ8_newLength_cabcc_3 rfl rfl (by decide) (by decide) (by decide) (by decide) (Nat.le_of_ble_eq_true rfl)) rfl rfl rfl ?_
  refine z_iadd E dJ8_newLength_cabcc_6 ?_
  refine z_istore_n (lv2 := [(3, .int (a0 + (f_J9_max_7cf53 a1 a2))), (0, .int a0), (1, .int a1), (2, .int a2)]) E dJ8_newLength_cabcc_7 (by decide) rfl ?_
  refine z_iconst E dJ8_newLength_cabcc_8 ic_0 ?_
  refine z_iload_n E 0 dJ8_newLength_cabcc_9 rfl ?_
  rcases oi e with ⟨c1, e⟩ | ⟨c1, e⟩
  · refine z_icmp_geT (tgt := 21) E dJ8_newLength_cabcc_10 rfl c1 ?_
    refine z_iload_n E 1 dJ8_newLength_cabcc_21 rfl ?_
    refine z_iload_n E 2 dJ8_newLength_cabcc_22 rfl ?_
    cases e
  · refine z_icmp_geF (tgt := 21) E dJ8_newLength_cabcc_10 rfl c1 ?_
    refine z_iload_n E 0 dJ8_newLength_cabcc_13 rfl ?_
    refine z_ldcI E dJ8_newLength_cabcc_14 cn_J8_200 ?_
    rcases oi e with ⟨c2, e⟩ | ⟨c2, e⟩
    · refine z_icmp_gtT (tgt := 21) E dJ8_newLength_cabcc_16 rfl c2 ?_
      refine z_iload_n E 1 dJ8_newLength_cabcc_21 rfl ?_
      refine z_iload_n E 2 dJ8_newLength_cabcc_22 rfl ?_
      cases e
    · refine z_icmp_gtF (tgt := 21) E dJ8_newLength_cabcc_16 rfl c2 ?_
      refine z_iload_n E 0 dJ8_newLength_cabcc_19 rfl ?_
      obtain rfl := Option.some.inj e
      exact z_iret E M dJ8_newLength_cabcc_20 rfl rfl rfl rfl (by decide) (by decide)
theorem c_J8_newLength_cabcc {l : Launch} (hl : l.stackTraces = false) {h : PH} {a0 : Int32} {a1 : Int32} {a2 : Int32} {r : Int32} (e : f_J8_newLength_cabcc a0 a1 a2 = some r) : CMet l yJ8_newLength_cabcc (z_W yJ8_newLength_cabcc cJ8_newLength_cabcc 4 (some .int)) rmJ8_newLength_cabcc h [.int a0, .int a1, .int a2] (.inr (some (.int r))) h :=
  z_met hl Y_J8_newLength_cabcc (by decide +kernel) (Nat.le_of_ble_eq_true rfl) (fun X hX E T0 M => b_J8_newLength_cabcc E T0 e M)
abbrev rmJ5_newCapacity_0f7a4 : Room := { frames := 2, cells := 0, slots := 0, locals := 44 }
noncomputable def f_J5_newCapacity_0f7a4 (h : PH) (a0 : Nat) (a1 : Int32) : Option Int32 :=
  (rdR h a0 1 0).bind fun x1 =>
  (alA .byte h x1).bind fun x3 =>
  (rdI h a0 1 1).bind fun x5 =>
  (rdI h a0 1 1).bind fun x7 =>
  (f_J8_newLength_cabcc x3 ((zshl a1 x5) - x3) (x3 + (zshl (2 : Int32) x7))).bind fun p9 =>
  if ¬ p9 = (2147483647 : Int32) then
    (rdI h a0 1 1).bind fun x12 =>
    some (zshr p9 x12)
  else
    none
theorem b_J5_newCapacity_0f7a4 {X : PX} (E : z_E X cJ5_newCapacity_0f7a4 RJ5 "newCapacity" 6 rmJ5_newCapacity_0f7a4 (some .int)) (T0 : z_T0 X) {h : PH} {a0 : Nat} {a1 : Int32} {r : Int32} (e : f_J5_newCapacity_0f7a4 h a0 a1 = some r) (M : z_M X rmJ5_newCapacity_0f7a4.cells rmJ5_newCapacity_0f7a4.slots (.inr (some (.int r))) h) : WP X 6 0 0 0 [(0, .ref a0), (1, .int a1)] [] h := by
  unfold f_J5_newCapacity_0f7a4 at e
  refine z_aload_n E 0 dJ5_newCapacity_0f7a4_0 rfl ?_
  obtain ⟨x1, e2, e⟩ := ob e
  refine z_getR E fl_J5_15 dJ5_newCapacity_0f7a4_1 e2 ?_
  obtain ⟨x3, e4, e⟩ := ob e
  refine z_alenA E 2 (fun _ => rfl) dJ5_newCapacity_0f7a4_4 e4 ?_
  refine z_istore_n (lv2 := [(2, .int x3), (0, .ref a0), (1, .int a1)]) E dJ5_newCapacity_0f7a4_5 (by decide) rfl ?_
  refine z_iload_n E 2 dJ5_newCapacity_0f7a4_6 rfl ?_
  refine z_aload_n E 1 dJ5_newCapacity_0f7a4_7 rfl ?_
  obtain ⟨x5, e6, e⟩ := ob e
  refine z_getI E fl_J5_22 dJ5_newCapacity_0f7a4_8 e6 ?_
  refine z_ishl E dJ5_newCapacity_0f7a4_11 ?_
  refine z_istore_n (lv2 := [(3, .int (zshl a1 x5)), (2, .int x3), (0, .ref a0), (1, .int a1)]) E dJ5_newCapacity_0f7a4_12 (by decide) rfl ?_
  refine z_iload_n E 0 dJ5_newCapacity_0f7a4_13 rfl ?_
  refine z_iload_n E 1 dJ5_newCapacity_0f7a4_14 rfl ?_
  refine z_isub E dJ5_newCapacity_0f7a4_15 ?_
  refine z_istore (lv2 := [(4, .int ((zshl a1 x5) - x3)), (3, .int (zshl a1 x5)), (2, .int x3), (0, .ref a0), (1, .int a1)]) E dJ5_newCapacity_0f7a4_16 (by decide) rfl ?_
  refine z_iload_n E 2 dJ5_newCapacity_0f7a4_18 rfl ?_
  refine z_iload E 0 dJ5_newCapacity_0f7a4_19 rfl ?_
  refine z_iload_n E 2 dJ5_newCapacity_0f7a4_21 rfl ?_
  refine z_iconst E dJ5_newCapacity_0f7a4_22 ic_2 ?_
  refine z_aload_n E 3 dJ5_newCapacity_0f7a4_23 rfl ?_
  obtain ⟨x7, e8, e⟩ := ob e
  refine z_getI E fl_J5_22 dJ5_newCapacity_0f7a4_24 e8 ?_
  refine z_ishl E dJ5_newCapacity_0f7a4_27 ?_
  refine z_iadd E dJ5_newCapacity_0f7a4_28 ?_
  obtain ⟨p9, e10, e⟩ := ob e
  refine z_kR2 (st := []) (av := [.int x3, .int ((zshl a1 x5) - x3), .int (x3 + (zshl (2 : Int32) x7))]) E 0 0 (z_rS (st := []) (av := [.int x3, .int ((zshl a1 x5) - x3), .int (x3 + (zshl (2 : Int32) x7))]) E Y_J8_newLength_cabcc k_J5_114 (c_J8_newLength_cabcc (z_El E) e10) dJ5_newCapacity_0f7a4_29 rfl rfl (by decide) (by decide) (by decide) (by decide) (Nat.zero_le _)) rfl rfl rfl ?_
  refine z_istore (lv2 := [(5, .int p9), (4, .int ((zshl a1 x5) - x3)), (3, .int (zshl a1 x5)), (2, .int x3), (0, .ref a0), (1, .int a1)]) E dJ5_newCapacity_0f7a4_32 (by decide) rfl ?_
  refine z_iload E 0 dJ5_newCapacity_0f7a4_34 rfl ?_
  refine z_ldcI E dJ5_newCapacity_0f7a4_36 cn_J5_39 ?_
  rcases oi e with ⟨c11, e⟩ | ⟨c11, e⟩
  · refine z_icmp_neT (tgt := 51) E dJ5_newCapacity_0f7a4_38 rfl c11 ?_
    refine z_iload E 0 dJ5_newCapacity_0f7a4_51 rfl ?_
    refine z_aload_n E 4 dJ5_newCapacity_0f7a4_53 rfl ?_
    obtain ⟨x12, e13, e⟩ := ob e
    refine z_getI E fl_J5_22 dJ5_newCapacity_0f7a4_54 e13 ?_
    refine z_ishr E dJ5_newCapacity_0f7a4_57 ?_
    obtain rfl := Option.some.inj e
    exact z_iret E M dJ5_newCapacity_0f7a4_58 rfl rfl rfl rfl (by decide) (by decide)
  · refine z_icmp_neF (tgt := 51) E dJ5_newCapacity_0f7a4_38 rfl (Classical.not_not.mp c11) ?_
    cases e
theorem c_J5_newCapacity_0f7a4 {l : Launch} (hl : l.stackTraces = false) {h : PH} {a0 : Nat} {a1 : Int32} {r : Int32} (e : f_J5_newCapacity_0f7a4 h a0 a1 = some r) : CMet l yJ5_newCapacity_0f7a4 (z_W yJ5_newCapacity_0f7a4 cJ5_newCapacity_0f7a4 6 (some .int)) rmJ5_newCapacity_0f7a4 h [.ref a0, .int a1] (.inr (some (.int r))) h :=
  z_met hl Y_J5_newCapacity_0f7a4 (by decide +kernel) (Nat.le_of_ble_eq_true rfl) (fun X hX E T0 M => b_J5_newCapacity_0f7a4 E T0 e M)
abbrev rmJ7_copyOf_9075b : Room := { frames := 1, cells := 1, slots := 64, locals := 60 }
noncomputable def f_J7_copyOf_9075b (h : PH) (a0 : Nat) (a1 : Int32) : Option (Nat × PH) :=
  (alA .byte h a0).bind fun x1 =>
  if ¬ a1 = x1 then
    (nwI .byte 64 h a1).bind fun h4 =>
    (alA .byte h4 a0).bind fun x6 =>
    (cpI .byte h4 a0 (0 : Int32) h.1 (0 : Int32) (f_J9_min_7cf53 x6 a1)).bind fun h8 =>
    some (h.1, h8)
  else
    none
theorem b_J7_copyOf_9075b {X : PX} (E : z_E X cJ7_copyOf_9075b RJ7 "copyOf" 3 rmJ7_copyOf_9075b (some (.array .byte))) (T0 : z_T0 X) {h : PH} {a0 : Nat} {a1 : Int32} {r : (Nat × PH)} (e : f_J7_copyOf_9075b h a0 a1 = some r) (M : z_M X rmJ7_copyOf_9075b.cells rmJ7_copyOf_9075b.slots (.inr (some (.ref r.1))) r.2) : WP X 3 0 0 0 [(0, .ref a0), (1, .int a1)] [] h := by
  unfold f_J7_copyOf_9075b at e
  refine z_iload_n E 1 dJ7_copyOf_9075b_0 rfl ?_
  refine z_aload_n E 0 dJ7_copyOf_9075b_1 rfl ?_
  obtain ⟨x1, e2, e⟩ := ob e
  refine z_alenA E 2 (fun _ => rfl) dJ7_copyOf_9075b_2 e2 ?_
  rcases oi e with ⟨c3, e⟩ | ⟨c3, e⟩
  · refine z_icmp_neT (tgt := 14) E dJ7_copyOf_9075b_3 rfl c3 ?_
    refine z_iload_n E 1 dJ7_copyOf_9075b_14 rfl ?_
    obtain ⟨h4, e5, e⟩ := ob e
    refine z_nwB E 64 (by decide) ac_byte dJ7_copyOf_9075b_15 e5 (by decide) (by decide) ?_
    refine z_kn 1 64 rfl rfl ?_
    refine z_astore_n (lv2 := [(2, .ref h.1), (0, .ref a0), (1, .int a1)]) E dJ7_copyOf_9075b_17 (by decide) rfl ?_
    refine z_aload_n E 1 dJ7_copyOf_9075b_18 rfl ?_
    refine z_iconst E dJ7_copyOf_9075b_19 ic_0 ?_
    refine z_aload_n E 0 dJ7_copyOf_9075b_20 rfl ?_
    refine z_iconst E dJ7_copyOf_9075b_21 ic_0 ?_
    refine z_aload_n E 1 dJ7_copyOf_9075b_22 rfl ?_
    obtain ⟨x6, e7, e⟩ := ob e
    refine z_alenA E 2 (fun _ => rfl) dJ7_copyOf_9075b_23 e7 ?_
    refine z_iload_n E 2 dJ7_copyOf_9075b_24 rfl ?_
    refine z_kR2 (st := [.int (0 : Int32), .ref h.1, .int (0 : Int32), .ref a0]) (av := [.int x6, .int a1]) E 1 64 (z_rS (st := [.int (0 : Int32), .ref h.1, .int (0 : Int32), .ref a0]) (av := [.int x6, .int a1]) E Y_J9_min_7cf53 k_J7_304 (c_J9_min_7cf53 (l := z_l X) (h := h4) (z_El E) x6 a1) dJ7_copyOf_9075b_25 rfl rfl (by decide) (by decide) (by decide) (by decide) (Nat.le_of_ble_eq_true rfl)) rfl rfl rfl ?_
    obtain ⟨h8, e9, e⟩ := ob e
    refine z_cpB E ar_J7_150 dJ7_copyOf_9075b_28 e9 (by decide) (Nat.le_of_ble_eq_true rfl) ?_
    refine z_aload_n E 0 dJ7_copyOf_9075b_31 rfl ?_
    obtain rfl := Option.some.inj e
    exact z_aret E M dJ7_copyOf_9075b_32 rfl (Or.inr ⟨_, rfl⟩) rfl rfl (by decide) (by decide)
  · refine z_icmp_neF (tgt := 14) E dJ7_copyOf_9075b_3 rfl (Classical.not_not.mp c3) ?_
    refine z_aload_n E 0 dJ7_copyOf_9075b_6 rfl ?_
    cases e
theorem c_J7_copyOf_9075b {l : Launch} (hl : l.stackTraces = false) {h : PH} {a0 : Nat} {a1 : Int32} {r : (Nat × PH)} (e : f_J7_copyOf_9075b h a0 a1 = some r) : CMet l yJ7_copyOf_9075b (z_W yJ7_copyOf_9075b cJ7_copyOf_9075b 3 (some (.array .byte))) rmJ7_copyOf_9075b h [.ref a0, .int a1] (.inr (some (.ref r.1))) r.2 :=
  z_met hl Y_J7_copyOf_9075b (by decide +kernel) (Nat.le_of_ble_eq_true rfl) (fun X hX E T0 M => b_J7_copyOf_9075b E T0 e M)
abbrev rmJ5_ensureCapacityInternal_d00df : Room := { frames := 3, cells := 1, slots := 64, locals := 82 }
noncomputable def f_J5_ensureCapacityInternal_d00df (h : PH) (a0 : Nat) (a1 : Int32) : Option PH :=
  (rdR h a0 1 0).bind fun x1 =>
  (alA .byte h x1).bind fun x3 =>
  (rdI h a0 1 1).bind fun x5 =>
  if (a1 - (zshr x3 x5)) ≤ 0 then
    some h
  else
    (rdR h a0 1 0).bind fun x8 =>
    (gd h a0 1).bind fun _ =>
    (f_J5_newCapacity_0f7a4 h a0 a1).bind fun p11 =>
    (rdI h a0 1 1).bind fun x13 =>
    (f_J7_copyOf_9075b h x8 (zshl p11 x13)).bind fun p15 =>
    (wr p15.2 a0 1 0 (.ref p15.1)).bind fun h17 =>
    some h17
theorem b_J5_ensureCapacityInternal_d00df {X : PX} (E : z_E X cJ5_ensureCapacityInternal_d00df RJ5 "ensureCapacityInternal" 3 rmJ5_ensureCapacityInternal_d00df none) (T0 : z_T0 X) {h : PH} {a0 : Nat} {a1 : Int32} {r : PH} (e : f_J5_ensureCapacityInternal_d00df h a0 a1 = some r) (M : z_M X rmJ5_ensureCapacityInternal_d00df.cells rmJ5_ensureCapacityInternal_d00df.slots (.inr none) r) : WP X 3 0 0 0 [(0, .ref a0), (1, .int a1)] [] h := by
  unfold f_J5_ensureCapacityInternal_d00df at e
  refine z_aload_n E 0 dJ5_ensureCapacityInternal_d00df_0 rfl ?_
  obtain ⟨x1, e2, e⟩ := ob e
  refine z_getR E fl_J5_15 dJ5_ensureCapacityInternal_d00df_1 e2 ?_
  obtain ⟨x3, e4, e⟩ := ob e
  refine z_alenA E 2 (fun _ => rfl) dJ5_ensureCapacityInternal_d00df_4 e4 ?_
  refine z_aload_n E 0 dJ5_ensureCapacityInternal_d00df_5 rfl ?_
  obtain ⟨x5, e6, e⟩ := ob e
  refine z_getI E fl_J5_22 dJ5_ensureCapacityInternal_d00df_6 e6 ?_
  refine z_ishr E dJ5_ensureCapacityInternal_d00df_9 ?_
  refine z_istore_n (lv2 := [(2, .int (zshr x3 x5)), (0, .ref a0), (1, .int a1)]) E dJ5_ensureCapacityInternal_d00df_10 (by decide) rfl ?_
  refine z_iload_n E 2 dJ5_ensureCapacityInternal_d00df_11 rfl ?_
  refine z_iload_n E 0 dJ5_ensureCapacityInternal_d00df_12 rfl ?_
  refine z_isub E dJ5_ensureCapacityInternal_d00df_13 ?_
  rcases oi e with ⟨c7, e⟩ | ⟨c7, e⟩
  · refine z_if_leT (tgt := 38) E dJ5_ensureCapacityInternal_d00df_14 rfl c7 ?_
    obtain rfl := Option.some.inj e
    exact z_vret E M dJ5_ensureCapacityInternal_d00df_38 rfl rfl rfl (by decide) (by decide)
  · refine z_if_leF (tgt := 38) E dJ5_ensureCapacityInternal_d00df_14 rfl c7 ?_
    refine z_aload_n E 1 dJ5_ensureCapacityInternal_d00df_17 rfl ?_
    refine z_aload_n E 1 dJ5_ensureCapacityInternal_d00df_18 rfl ?_
    obtain ⟨x8, e9, e⟩ := ob e
    refine z_getR E fl_J5_15 dJ5_ensureCapacityInternal_d00df_19 e9 ?_
    refine z_aload_n E 1 dJ5_ensureCapacityInternal_d00df_22 rfl ?_
    refine z_iload_n E 2 dJ5_ensureCapacityInternal_d00df_23 rfl ?_
    obtain ⟨_, e10, e⟩ := ob e
    obtain ⟨p11, e12, e⟩ := ob e
    refine z_kR2 (st := [.ref x8, .ref a0]) (av := [.ref a0, .int a1]) E 0 0 (z_rV (st := [.ref x8, .ref a0]) (av := [.int a1]) E Y_J5_newCapacity_0f7a4 k_J5_104 (ci := 1) rfl (c_J5_newCapacity_0f7a4 (z_El E) e12) dJ5_ensureCapacityInternal_d00df_24 e10 rfl rfl (by decide) (by decide) (by decide) (by decide) (Nat.le_of_ble_eq_true rfl)) rfl rfl rfl ?_
    refine z_aload_n E 1 dJ5_ensureCapacityInternal_d00df_27 rfl ?_
    obtain ⟨x13, e14, e⟩ := ob e
    refine z_getI E fl_J5_22 dJ5_ensureCapacityInternal_d00df_28 e14 ?_
    refine z_ishl E dJ5_ensureCapacityInternal_d00df_31 ?_
    obtain ⟨p15, e16, e⟩ := ob e
    refine z_kR2 (st := [.ref a0]) (av := [.ref x8, .int (zshl p11 x13)]) E 1 64 (z_rS (st := [.ref a0]) (av := [.ref x8, .int (zshl p11 x13)]) E Y_J7_copyOf_9075b k_J5_108 (c_J7_copyOf_9075b (z_El E) e16) dJ5_ensureCapacityInternal_d00df_32 rfl rfl (by decide) (by decide) (by decide) (by decide) (Nat.le_of_ble_eq_true rfl)) rfl rfl rfl ?_
    obtain ⟨h17, e18, e⟩ := ob e
    refine z_putR E fp_J5_15 (Or.inr ⟨_, rfl⟩) (Or.inl rfl) dJ5_ensureCapacityInternal_d00df_35 e18 ?_
    obtain rfl := Option.some.inj e
    exact z_vret E M dJ5_ensureCapacityInternal_d00df_38 rfl rfl rfl (by decide) (by decide)
theorem c_J5_ensureCapacityInternal_d00df {l : Launch} (hl : l.stackTraces = false) {h : PH} {a0 : Nat} {a1 : Int32} {r : PH} (e : f_J5_ensureCapacityInternal_d00df h a0 a1 = some r) : CMet l yJ5_ensureCapacityInternal_d00df (z_W yJ5_ensureCapacityInternal_d00df cJ5_ensureCapacityInternal_d00df 3 none) rmJ5_ensureCapacityInternal_d00df h [.ref a0, .int a1] (.inr none) r :=
  z_met hl Y_J5_ensureCapacityInternal_d00df (by decide +kernel) (Nat.le_of_ble_eq_true rfl) (fun X hX E T0 M => b_J5_ensureCapacityInternal_d00df E T0 e M)
abbrev rmJ5_isLatin1_aae02 : Room := { frames := 0, cells := 0, slots := 0, locals := 0 }
noncomputable def f_J5_isLatin1_aae02 (h : PH) (a0 : Nat) : Option Bool :=
  (rdI h a0 1 1).bind fun x1 =>
  if ¬ x1 = 0 then
    some false
  else
    some true
theorem b_J5_isLatin1_aae02 {X : PX} (E : z_E X cJ5_isLatin1_aae02 RJ5 "isLatin1" 1 rmJ5_isLatin1_aae02 (some .boolean)) (T0 : z_T0 X) {h : PH} {a0 : Nat} {r : Bool} (e : f_J5_isLatin1_aae02 h a0 = some r) (M : z_M X rmJ5_isLatin1_aae02.cells rmJ5_isLatin1_aae02.slots (.inr (some (.int (zb r)))) h) : WP X 1 0 0 0 [(0, .ref a0)] [] h := by
  unfold f_J5_isLatin1_aae02 at e
  refine z_gets E (List.mem_of_getElem? (i := 1) rfl) gs_J5_18 dJ5_isLatin1_aae02_0 ?_
  refine z_if_eqF (tgt := 17) E dJ5_isLatin1_aae02_3 rfl (by decide) ?_
  refine z_aload_n E 0 dJ5_isLatin1_aae02_6 rfl ?_
  obtain ⟨x1, e2, e⟩ := ob e
  refine z_getI E fl_J5_22 dJ5_isLatin1_aae02_7 e2 ?_
  rcases oi e with ⟨c3, e⟩ | ⟨c3, e⟩
  · refine z_if_neT (tgt := 17) E dJ5_isLatin1_aae02_10 rfl c3 ?_
    refine z_iconst E dJ5_isLatin1_aae02_17 ic_0 ?_
    obtain rfl := Option.some.inj e
    exact z_iret E M dJ5_isLatin1_aae02_18 rfl rfl rfl rfl (by decide) (by decide)
  · refine z_if_neF (tgt := 17) E dJ5_isLatin1_aae02_10 rfl (Classical.not_not.mp c3) ?_
    refine z_iconst E dJ5_isLatin1_aae02_13 ic_1 ?_
    refine z_goto (tgt := 18) E dJ5_isLatin1_aae02_14 rfl ?_
    obtain rfl := Option.some.inj e
    exact z_iret E M dJ5_isLatin1_aae02_18 rfl rfl rfl rfl (by decide) (by decide)
theorem c_J5_isLatin1_aae02 {l : Launch} (hl : l.stackTraces = false) {h : PH} {a0 : Nat} {r : Bool} (e : f_J5_isLatin1_aae02 h a0 = some r) : CMet l yJ5_isLatin1_aae02 (z_W yJ5_isLatin1_aae02 cJ5_isLatin1_aae02 1 (some .boolean)) rmJ5_isLatin1_aae02 h [.ref a0] (.inr (some (.int (zb r)))) h :=
  z_met hl Y_J5_isLatin1_aae02 (by decide +kernel) (Nat.le_of_ble_eq_true rfl) (fun X hX E T0 M => b_J5_isLatin1_aae02 E T0 e M)
abbrev rmJ5_setLength_d00df : Room := { frames := 4, cells := 1, slots := 64, locals := 104 }
noncomputable def f_J5_setLength_d00df (h : PH) (a0 : Nat) (a1 : Int32) : Option PH :=
  if 0 ≤ a1 then
    (gd h a0 1).bind fun _ =>
    (f_J5_ensureCapacityInternal_d00df h a0 a1).bind fun p3 =>
    (rdI p3 a0 1 3).bind fun x5 =>
    if a1 ≤ x5 then
      (rdI p3 a0 1 3).bind fun x8 =>
      if x8 ≤ a1 then
        (wr p3 a0 1 3 (.int a1)).bind fun h11 =>
        some h11
      else
        (wr p3 a0 1 2 (.int (1 : Int32))).bind fun h13 =>
        (wr h13 a0 1 3 (.int a1)).bind fun h15 =>
        some h15
    else
      (gd p3 a0 1).bind fun _ =>
      (f_J5_isLatin1_aae02 p3 a0).bind fun p18 =>
      if p18 = false then
        (rdR p3 a0 1 0).bind fun x21 =>
        (rdI p3 a0 1 3).bind fun x23 =>
        none
      else
        (rdR p3 a0 1 0).bind fun x25 =>
        (rdI p3 a0 1 3).bind fun x27 =>
        none
  else
    none
theorem b_J5_setLength_d00df {X : PX} (E : z_E X cJ5_setLength_d00df RJ5 "setLength" 2 rmJ5_setLength_d00df none) (T0 : z_T0 X) {h : PH} {a0 : Nat} {a1 : Int32} {r : PH} (e : f_J5_setLength_d00df h a0 a1 = some r) (M : z_M X rmJ5_setLength_d00df.cells rmJ5_setLength_d00df.slots (.inr none) r) : WP X 2 0 0 0 [(0, .ref a0), (1, .int a1)] [] h := by
  unfold f_J5_setLength_d00df at e
  refine z_iload_n E 1 dJ5_setLength_d00df_0 rfl ?_
  rcases oi e with ⟨c1, e⟩ | ⟨c1, e⟩
  · refine z_if_geT (tgt := 13) E dJ5_setLength_d00df_1 rfl c1 ?_
    refine z_aload_n E 0 dJ5_setLength_d00df_13 rfl ?_
    refine z_iload_n E 1 dJ5_setLength_d00df_14 rfl ?_
    obtain ⟨_, e2, e⟩ := ob e
    obtain ⟨p3, e4, e⟩ := ob e
    refine z_kV2 (st := []) (av := [.ref a0, .int a1]) E 1 64 (z_rV (st := []) (av := [.int a1]) E Y_J5_ensureCapacityInternal_d00df k_J5_100 (ci := 1) rfl (c_J5_ensureCapacityInternal_d00df (z_El E) e4) dJ5_setLength_d00df_15 e2 rfl rfl (by decide) (by decide) (by decide) (by decide) (Nat.zero_le _)) rfl rfl rfl ?_
    refine z_aload_n E 0 dJ5_setLength_d00df_18 rfl ?_
    obtain ⟨x5, e6, e⟩ := ob e
    refine z_getI E fl_J5_79 dJ5_setLength_d00df_19 e6 ?_
    refine z_iload_n E 1 dJ5_setLength_d00df_22 rfl ?_
    rcases oi e with ⟨c7, e⟩ | ⟨c7, e⟩
    · refine z_icmp_geT (tgt := 63) E dJ5_setLength_d00df_23 rfl c7 ?_
      refine z_aload_n E 0 dJ5_setLength_d00df_63 rfl ?_
      obtain ⟨x8, e9, e⟩ := ob e
      refine z_getI E fl_J5_79 dJ5_setLength_d00df_64 e9 ?_
      refine z_iload_n E 1 dJ5_setLength_d00df_67 rfl ?_
      rcases oi e with ⟨c10, e⟩ | ⟨c10, e⟩
      · refine z_icmp_leT (tgt := 76) E dJ5_setLength_d00df_68 rfl c10 ?_
        refine z_aload_n E 0 dJ5_setLength_d00df_76 rfl ?_
        refine z_iload_n E 1 dJ5_setLength_d00df_77 rfl ?_
        obtain ⟨h11, e12, e⟩ := ob e
        refine z_putI E fp_J5_79 (Or.inl rfl) dJ5_setLength_d00df_78 e12 ?_
        obtain rfl := Option.some.inj e
        exact z_vret E M dJ5_setLength_d00df_81 rfl rfl rfl (by decide) (by decide)
      · refine z_icmp_leF (tgt := 76) E dJ5_setLength_d00df_68 rfl c10 ?_
        refine z_aload_n E 0 dJ5_setLength_d00df_71 rfl ?_
        refine z_iconst E dJ5_setLength_d00df_72 ic_1 ?_
        obtain ⟨h13, e14, e⟩ := ob e
        refine z_putV E fp_J5_73 (Or.inl rfl) dJ5_setLength_d00df_73 e14 (fun _ => ⟨rfl, rfl⟩) ?_
        refine z_aload_n E 0 dJ5_setLength_d00df_76 rfl ?_
        refine z_iload_n E 1 dJ5_setLength_d00df_77 rfl ?_
        obtain ⟨h15, e16, e⟩ := ob e
        refine z_putI E fp_J5_79 (Or.inl rfl) dJ5_setLength_d00df_78 e16 ?_
        obtain rfl := Option.some.inj e
        exact z_vret E M dJ5_setLength_d00df_81 rfl rfl rfl (by decide) (by decide)
    · refine z_icmp_geF (tgt := 63) E dJ5_setLength_d00df_23 rfl c7 ?_
      refine z_aload_n E 0 dJ5_setLength_d00df_26 rfl ?_
      obtain ⟨_, e17, e⟩ := ob e
      obtain ⟨p18, e19, e⟩ := ob e
      refine z_kR2 (st := []) (av := [.ref a0]) E 1 64 (z_rV (st := []) (av := []) E Y_J5_isLatin1_aae02 k_J5_83 (ci := 1) rfl (c_J5_isLatin1_aae02 (z_El E) e19) dJ5_setLength_d00df_27 e17 rfl rfl (by decide) (by decide) (by decide) (by decide) (Nat.zero_le _)) rfl rfl rfl ?_
      rcases oi e with ⟨c20, e⟩ | ⟨c20, e⟩
      · refine z_if_eqT (tgt := 48) E dJ5_setLength_d00df_30 rfl (zb_f c20) ?_
        refine z_aload_n E 0 dJ5_setLength_d00df_48 rfl ?_
        obtain ⟨x21, e22, e⟩ := ob e
        refine z_getR E fl_J5_15 dJ5_setLength_d00df_49 e22 ?_
        refine z_aload_n E 0 dJ5_setLength_d00df_52 rfl ?_
        obtain ⟨x23, e24, e⟩ := ob e
        refine z_getI E fl_J5_79 dJ5_setLength_d00df_53 e24 ?_
        refine z_iload_n E 1 dJ5_setLength_d00df_56 rfl ?_
        cases e
      · refine z_if_eqF (tgt := 48) E dJ5_setLength_d00df_30 rfl (zb_nf c20) ?_
        refine z_aload_n E 0 dJ5_setLength_d00df_33 rfl ?_
        obtain ⟨x25, e26, e⟩ := ob e
        refine z_getR E fl_J5_15 dJ5_setLength_d00df_34 e26 ?_
        refine z_aload_n E 0 dJ5_setLength_d00df_37 rfl ?_
        obtain ⟨x27, e28, e⟩ := ob e
        refine z_getI E fl_J5_79 dJ5_setLength_d00df_38 e28 ?_
        refine z_iload_n E 1 dJ5_setLength_d00df_41 rfl ?_
        cases e
  · refine z_if_geF (tgt := 13) E dJ5_setLength_d00df_1 rfl c1 ?_
    cases e
theorem c_J5_setLength_d00df {l : Launch} (hl : l.stackTraces = false) {h : PH} {a0 : Nat} {a1 : Int32} {r : PH} (e : f_J5_setLength_d00df h a0 a1 = some r) : CMet l yJ5_setLength_d00df (z_W yJ5_setLength_d00df cJ5_setLength_d00df 2 none) rmJ5_setLength_d00df h [.ref a0, .int a1] (.inr none) r :=
  z_met hl Y_J5_setLength_d00df (by decide +kernel) (Nat.le_of_ble_eq_true rfl) (fun X hX E T0 M => b_J5_setLength_d00df E T0 e M)
abbrev rmJ4_setLength_d00df : Room := { frames := 5, cells := 1, slots := 64, locals := 125 }
noncomputable def f_J4_setLength_d00df (h : PH) (a0 : Nat) (a1 : Int32) : Option PH :=
  (gd h a0 1).bind fun _ =>
  (f_J5_setLength_d00df h a0 a1).bind fun p2 =>
  some p2
theorem b_J4_setLength_d00df {X : PX} (E : z_E X cJ4_setLength_d00df RJ4 "setLength" 2 rmJ4_setLength_d00df none) (T0 : z_T0 X) {h : PH} {a0 : Nat} {a1 : Int32} {r : PH} (e : f_J4_setLength_d00df h a0 a1 = some r) (M : z_M X rmJ4_setLength_d00df.cells rmJ4_setLength_d00df.slots (.inr none) r) : WP X 2 0 0 0 [(0, .ref a0), (1, .int a1)] [] h := by
  unfold f_J4_setLength_d00df at e
  refine z_aload_n E 0 dJ4_setLength_d00df_0 rfl ?_
  refine z_iload_n E 1 dJ4_setLength_d00df_1 rfl ?_
  obtain ⟨_, e1, e⟩ := ob e
  obtain ⟨p2, e3, e⟩ := ob e
  refine z_kV2 (st := []) (av := [.ref a0, .int a1]) E 1 64 (z_rSU (st := []) (av := [.int a1]) E Y_J5_setLength_d00df k_J4_333 (ci := 1) rfl (c_J5_setLength_d00df (z_El E) e3) dJ4_setLength_d00df_2 e1 rfl rfl (by decide) (by decide) (by decide) (by decide) (Nat.zero_le _)) rfl rfl rfl ?_
  obtain rfl := Option.some.inj e
  exact z_vret E M dJ4_setLength_d00df_5 rfl rfl rfl (by decide) (by decide)
theorem c_J4_setLength_d00df {l : Launch} (hl : l.stackTraces = false) {h : PH} {a0 : Nat} {a1 : Int32} {r : PH} (e : f_J4_setLength_d00df h a0 a1 = some r) : CMet l yJ4_setLength_d00df (z_W yJ4_setLength_d00df cJ4_setLength_d00df 2 none) rmJ4_setLength_d00df h [.ref a0, .int a1] (.inr none) r :=
  z_met hl Y_J4_setLength_d00df (by decide +kernel) (Nat.le_of_ble_eq_true rfl) (fun X hX E T0 M => b_J4_setLength_d00df E T0 e M)
abbrev rmJ6_stringSize_0f7a4 : Room := { frames := 0, cells := 0, slots := 0, locals := 0 }
noncomputable def f_J6_stringSize_0f7a4_L16 : Nat → Int32 → Int32 → Int32 → Int32 → Option (Int32 ⊕ Unit)
  | 0, _, _, _, _ => none
  | fu + 1, v0, v1, v2, v3 =>
    if (10 : Int32) ≤ v3 then
      some (Sum.inr ())
    else
      if v0 ≤ v2 then
        f_J6_stringSize_0f7a4_L16 fu v0 v1 ((10 : Int32) * v2) (v3 + (1 : Int32))
      else
        some (Sum.inl (v3 + v1))
theorem b_J6_stringSize_0f7a4_L16 {X : PX} (E : z_E X cJ6_stringSize_0f7a4 RJ6 "stringSize" 4 rmJ6_stringSize_0f7a4 (some .int)) (T0 : z_T0 X) {h : PH} {k n : Nat} (hk : k + 0 ≤ rmJ6_stringSize_0f7a4.cells) (hn : n + 0 ≤ rmJ6_stringSize_0f7a4.slots) {s : (Int32 ⊕ Unit)} : ∀ (fu : Nat) (v0 : Int32) (v1 : Int32) (v2 : Int32) (v3 : Int32) (e : f_J6_stringSize_0f7a4_L16 fu v0 v1 v2 v3 = some s) (M : ∀ q, s = Sum.inl q → z_M X rmJ6_stringSize_0f7a4.cells rmJ6_stringSize_0f7a4.slots (.inr (some (.int q))) h) (kk : ∀ t, s = Sum.inr t → WP X 4 k n 42 [(1, .int v1)] [] h), WP X 4 k n 16 [(0, .int v0), (1, .int v1), (2, .int v2), (3, .int v3)] [] h := by
  intro fu
  induction fu with
  | zero => intro v0 v1 v2 v3 e; exact absurd (show (none : Option (Int32 ⊕ Unit)) = some s from e) (by intro z; cases z)
  | succ fu ih =>
    intro v0 v1 v2 v3 e M kk
    unfold f_J6_stringSize_0f7a4_L16 at e
    refine z_iload_n E 3 dJ6_stringSize_0f7a4_16 rfl ?_
    refine z_bipush E dJ6_stringSize_0f7a4_17 bp_10 ?_
    rcases oi e with ⟨c1, e⟩ | ⟨c1, e⟩
    · refine z_icmp_geT (tgt := 42) E dJ6_stringSize_0f7a4_19 rfl c1 ?_
      obtain rfl := Option.some.inj e
      exact z_sub [1] rfl (kk _ rfl)
    · refine z_icmp_geF (tgt := 42) E dJ6_stringSize_0f7a4_19 rfl c1 ?_
      refine z_iload_n E 0 dJ6_stringSize_0f7a4_22 rfl ?_
      refine z_iload_n E 2 dJ6_stringSize_0f7a4_23 rfl ?_
      rcases oi e with ⟨c2, e⟩ | ⟨c2, e⟩
      · refine z_icmp_leT (tgt := 31) E dJ6_stringSize_0f7a4_24 rfl c2 ?_
        refine z_bipush E dJ6_stringSize_0f7a4_31 bp_10 ?_
        refine z_iload_n E 2 dJ6_stringSize_0f7a4_33 rfl ?_
        refine z_imul E dJ6_stringSize_0f7a4_34 ?_
        refine z_istore_n (lv2 := [(2, .int ((10 : Int32) * v2)), (0, .int v0), (1, .int v1), (3, .int v3)]) E dJ6_stringSize_0f7a4_35 (by decide) rfl ?_
        refine z_iinc (v := (v3 + (1 : Int32))) (lv2 := [(3, .int (v3 + (1 : Int32))), (2, .int ((10 : Int32) * v2)), (0, .int v0), (1, .int v1)]) E 3 dJ6_stringSize_0f7a4_36 rfl (congrArg (v3 + ·) ic_1) (by decide) rfl ?_
        refine z_goto (tgt := 16) E dJ6_stringSize_0f7a4_39 rfl ?_
        exact z_sub [2, 3, 1, 0] rfl (ih _ _ _ _ e M kk)
      · refine z_icmp_leF (tgt := 31) E dJ6_stringSize_0f7a4_24 rfl c2 ?_
        refine z_iload_n E 3 dJ6_stringSize_0f7a4_27 rfl ?_
        refine z_iload_n E 1 dJ6_stringSize_0f7a4_28 rfl ?_
        refine z_iadd E dJ6_stringSize_0f7a4_29 ?_
        have M := M _ (Option.some.inj e).symm
        exact z_iret E M dJ6_stringSize_0f7a4_30 rfl rfl rfl rfl (zk (k := k) (a := 0) hk (by decide)) (zk (k := n) (a := 0) hn (by decide))
noncomputable def f_J6_stringSize_0f7a4_J11 (v0 : Int32) (v1 : Int32) : Option Int32 :=
  (f_J6_stringSize_0f7a4_L16 FV v0 v1 (-10 : Int32) (1 : Int32)).bind fun s1 =>
  Sum.elim (fun q3 => some q3) (fun t4 =>
    some ((10 : Int32) + v1)) s1
theorem b_J6_stringSize_0f7a4_J11 {X : PX} (E : z_E X cJ6_stringSize_0f7a4 RJ6 "stringSize" 4 rmJ6_stringSize_0f7a4 (some .int)) (T0 : z_T0 X) {k n : Nat} (hk : k + 0 ≤ rmJ6_stringSize_0f7a4.cells) (hn : n + 0 ≤ rmJ6_stringSize_0f7a4.slots) {h : PH} {v0 : Int32} {v1 : Int32} {r : Int32} (e : f_J6_stringSize_0f7a4_J11 v0 v1 = some r) (M : z_M X rmJ6_stringSize_0f7a4.cells rmJ6_stringSize_0f7a4.slots (.inr (some (.int r))) h) : WP X 4 k n 11 [(0, .int v0), (1, .int v1)] [] h := by
  unfold f_J6_stringSize_0f7a4_J11 at e
  refine z_bipush E dJ6_stringSize_0f7a4_11 bp_m10 ?_
  refine z_istore_n (lv2 := [(2, .int (-10 : Int32)), (0, .int v0), (1, .int v1)]) E dJ6_stringSize_0f7a4_13 (by decide) rfl ?_
  refine z_iconst E dJ6_stringSize_0f7a4_14 ic_1 ?_
  refine z_istore_n (lv2 := [(3, .int (1 : Int32)), (2, .int (-10 : Int32)), (0, .int v0), (1, .int v1)]) E dJ6_stringSize_0f7a4_15 (by decide) rfl ?_
  obtain ⟨s1, e2, e⟩ := ob e
  refine z_sub [2, 3, 1, 0] rfl (b_J6_stringSize_0f7a4_L16 E T0 (zk (k := k) (a := 0) hk (by decide)) (zk (k := n) (a := 0) hn (by decide)) FV _ _ _ _ e2 (fun q3 c5 => ?_) (fun t4 c5 => ?_))
  · have e := os_l e c5
    obtain rfl := Option.some.inj e
    exact M
  · have e := os_r e c5
    refine z_bipush E dJ6_stringSize_0f7a4_42 bp_10 ?_
    refine z_iload_n E 0 dJ6_stringSize_0f7a4_44 rfl ?_
    refine z_iadd E dJ6_stringSize_0f7a4_45 ?_
    obtain rfl := Option.some.inj e
    exact z_iret E M dJ6_stringSize_0f7a4_46 rfl rfl rfl rfl (zk (k := k) (a := 0) hk (by decide)) (zk (k := n) (a := 0) hn (by decide))
noncomputable def f_J6_stringSize_0f7a4 (a0 : Int32) : Option Int32 :=
  if a0 < 0 then
    f_J6_stringSize_0f7a4_J11 a0 (1 : Int32)
  else
    f_J6_stringSize_0f7a4_J11 (-a0) (0 : Int32)
theorem b_J6_stringSize_0f7a4 {X : PX} (E : z_E X cJ6_stringSize_0f7a4 RJ6 "stringSize" 4 rmJ6_stringSize_0f7a4 (some .int)) (T0 : z_T0 X) {h : PH} {a0 : Int32} {r : Int32} (e : f_J6_stringSize_0f7a4 a0 = some r) (M : z_M X rmJ6_stringSize_0f7a4.cells rmJ6_stringSize_0f7a4.slots (.inr (some (.int r))) h) : WP X 4 0 0 0 [(0, .int a0)] [] h := by
  unfold f_J6_stringSize_0f7a4 at e
  refine z_iconst E dJ6_stringSize_0f7a4_0 ic_1 ?_
  refine z_istore_n (lv2 := [(1, .int (1 : Int32)), (0, .int a0)]) E dJ6_stringSize_0f7a4_1 (by decide) rfl ?_
  refine z_iload_n E 1 dJ6_stringSize_0f7a4_2 rfl ?_
  rcases oi e with ⟨c1, e⟩ | ⟨c1, e⟩
  · refine z_if_ltT (tgt := 11) E dJ6_stringSize_0f7a4_3 rfl c1 ?_
    exact z_sub [1, 0] rfl (b_J6_stringSize_0f7a4_J11 E T0 (by decide) (by decide) e M)
  · refine z_if_ltF (tgt := 11) E dJ6_stringSize_0f7a4_3 rfl c1 ?_
    refine z_iconst E dJ6_stringSize_0f7a4_6 ic_0 ?_
    refine z_istore_n (lv2 := [(1, .int (0 : Int32)), (0, .int a0)]) E dJ6_stringSize_0f7a4_7 (by decide) rfl ?_
    refine z_iload_n E 1 dJ6_stringSize_0f7a4_8 rfl ?_
    refine z_ineg E dJ6_stringSize_0f7a4_9 ?_
    refine z_istore_n (lv2 := [(0, .int (-a0)), (1, .int (0 : Int32))]) E dJ6_stringSize_0f7a4_10 (by decide) rfl ?_
    exact z_sub [0, 1] rfl (b_J6_stringSize_0f7a4_J11 E T0 (by decide) (by decide) e M)
theorem c_J6_stringSize_0f7a4 {l : Launch} (hl : l.stackTraces = false) {h : PH} {a0 : Int32} {r : Int32} (e : f_J6_stringSize_0f7a4 a0 = some r) : CMet l yJ6_stringSize_0f7a4 (z_W yJ6_stringSize_0f7a4 cJ6_stringSize_0f7a4 4 (some .int)) rmJ6_stringSize_0f7a4 h [.int a0] (.inr (some (.int r))) h :=
  z_met hl Y_J6_stringSize_0f7a4 (by decide +kernel) (Nat.le_of_ble_eq_true rfl) (fun X hX E T0 M => b_J6_stringSize_0f7a4 E T0 e M)
abbrev rmJ6_getChars_ba4f3 : Room := { frames := 0, cells := 0, slots := 0, locals := 0 }
noncomputable def f_J6_getChars_ba4f3_L22 : Nat → PH → Int32 → Nat → Int32 → Int32 → Option (Int32 × Int32 × PH)
  | 0, _, _, _, _, _ => none
  | fu + 1, h, v0, v2, v5, v6 =>
    if (-100 : Int32) < v0 then
      some (v0, v5, h)
    else
      (alI .byte h 84 (((v0 / (100 : Int32)) * (100 : Int32)) - v0)).bind fun x2 =>
      (asI .byte h v2 (v5 + (-1 : Int32)) x2).bind fun h4 =>
      (alI .byte h4 85 (((v0 / (100 : Int32)) * (100 : Int32)) - v0)).bind fun x6 =>
      (asI .byte h4 v2 ((v5 + (-1 : Int32)) + (-1 : Int32)) x6).bind fun h8 =>
      f_J6_getChars_ba4f3_L22 fu h8 (v0 / (100 : Int32)) v2 ((v5 + (-1 : Int32)) + (-1 : Int32)) v6
theorem b_J6_getChars_ba4f3_L22 {X : PX} (E : z_E X cJ6_getChars_ba4f3 RJ6 "getChars" 7 rmJ6_getChars_ba4f3 (some .int)) (T0 : z_T0 X) {k n : Nat} (hk : k + 0 ≤ rmJ6_getChars_ba4f3.cells) (hn : n + 0 ≤ rmJ6_getChars_ba4f3.slots) {s : (Int32 × Int32 × PH)} : ∀ (fu : Nat) (h : PH) (v0 : Int32) (v2 : Nat) (v5 : Int32) (v6 : Int32) (e : f_J6_getChars_ba4f3_L22 fu h v0 v2 v5 v6 = some s) (kk : WP X 7 k n 72 [(0, .int s.1), (2, .ref v2), (5, .int s.2.1), (6, .int v6)] [] s.2.2), WP X 7 k n 22 [(0, .int v0), (2, .ref v2), (5, .int v5), (6, .int v6)] [] h := by
  intro fu
  induction fu with
  | zero => intro h v0 v2 v5 v6 e; exact absurd (show (none : Option (Int32 × Int32 × PH)) = some s from e) (by intro z; cases z)
  | succ fu ih =>
    intro h v0 v2 v5 v6 e kk
    unfold f_J6_getChars_ba4f3_L22 at e
    refine z_iload_n E 0 dJ6_getChars_ba4f3_22 rfl ?_
    refine z_bipush E dJ6_getChars_ba4f3_23 bp_m100 ?_
    rcases oi e with ⟨c1, e⟩ | ⟨c1, e⟩
    · refine z_icmp_gtT (tgt := 72) E dJ6_getChars_ba4f3_25 rfl c1 ?_
      obtain rfl := Option.some.inj e
      exact z_sub [0, 1, 2, 3] rfl kk
    · refine z_icmp_gtF (tgt := 72) E dJ6_getChars_ba4f3_25 rfl c1 ?_
      refine z_iload_n E 0 dJ6_getChars_ba4f3_28 rfl ?_
      refine z_bipush E dJ6_getChars_ba4f3_29 bp_100 ?_
      refine z_idiv E dJ6_getChars_ba4f3_31 (by decide) ?_
      refine z_istore_n (lv2 := [(3, .int (v0 / (100 : Int32))), (0, .int v0), (2, .ref v2), (5, .int v5), (6, .int v6)]) E dJ6_getChars_ba4f3_32 (by decide) rfl ?_
      refine z_iload_n E 0 dJ6_getChars_ba4f3_33 rfl ?_
      refine z_bipush E dJ6_getChars_ba4f3_34 bp_100 ?_
      refine z_imul E dJ6_getChars_ba4f3_36 ?_
      refine z_iload_n E 1 dJ6_getChars_ba4f3_37 rfl ?_
      refine z_isub E dJ6_getChars_ba4f3_38 ?_
      refine z_istore (lv2 := [(4, .int (((v0 / (100 : Int32)) * (100 : Int32)) - v0)), (3, .int (v0 / (100 : Int32))), (0, .int v0), (2, .ref v2), (5, .int v5), (6, .int v6)]) E dJ6_getChars_ba4f3_39 (by decide) rfl ?_
      refine z_iload_n E 1 dJ6_getChars_ba4f3_41 rfl ?_
      refine z_istore_n (lv2 := [(0, .int (v0 / (100 : Int32))), (4, .int (((v0 / (100 : Int32)) * (100 : Int32)) - v0)), (3, .int (v0 / (100 : Int32))), (2, .ref v2), (5, .int v5), (6, .int v6)]) E dJ6_getChars_ba4f3_42 (by decide) rfl ?_
      refine z_aload_n E 3 dJ6_getChars_ba4f3_43 rfl ?_
      refine z_iinc (v := (v5 + (-1 : Int32))) (lv2 := [(5, .int (v5 + (-1 : Int32))), (0, .int (v0 / (100 : Int32))), (4, .int (((v0 / (100 : Int32)) * (100 : Int32)) - v0)), (3, .int (v0 / (100 : Int32))), (2, .ref v2), (6, .int v6)]) E 4 dJ6_getChars_ba4f3_44 rfl (congrArg (v5 + ·) ic_m1) (by decide) rfl ?_
      refine z_iload E 0 dJ6_getChars_ba4f3_47 rfl ?_
      refine z_gets E (List.mem_of_getElem? (i := 2) rfl) gs_J6_83 dJ6_getChars_ba4f3_49 ?_
      refine z_iload E 2 dJ6_getChars_ba4f3_52 rfl ?_
      obtain ⟨x2, e3, e⟩ := ob e
      refine z_bald E dJ6_getChars_ba4f3_54 e3 ?_
      obtain ⟨h4, e5, e⟩ := ob e
      refine z_bast E dJ6_getChars_ba4f3_55 e5 ?_
      refine z_aload_n E 4 dJ6_getChars_ba4f3_56 rfl ?_
      refine z_iinc (v := ((v5 + (-1 : Int32)) + (-1 : Int32))) (lv2 := [(5, .int ((v5 + (-1 : Int32)) + (-1 : Int32))), (0, .int (v0 / (100 : Int32))), (4, .int (((v0 / (100 : Int32)) * (100 : Int32)) - v0)), (3, .int (v0 / (100 : Int32))), (2, .ref v2), (6, .int v6)]) E 0 dJ6_getChars_ba4f3_57 rfl (congrArg ((v5 + (-1 : Int32)) + ·) ic_m1) (by decide) rfl ?_
      refine z_iload E 0 dJ6_getChars_ba4f3_60 rfl ?_
      refine z_gets E (List.mem_of_getElem? (i := 3) rfl) gs_J6_87 dJ6_getChars_ba4f3_62 ?_
      refine z_iload E 2 dJ6_getChars_ba4f3_65 rfl ?_
      obtain ⟨x6, e7, e⟩ := ob e
      refine z_bald E dJ6_getChars_ba4f3_67 e7 ?_
      obtain ⟨h8, e9, e⟩ := ob e
      refine z_bast E dJ6_getChars_ba4f3_68 e9 ?_
      refine z_goto (tgt := 22) E dJ6_getChars_ba4f3_69 rfl ?_
      exact z_sub [1, 4, 0, 5] rfl (ih _ _ _ _ _ e kk)
noncomputable def f_J6_getChars_ba4f3_J12 (h : PH) (v0 : Int32) (v2 : Nat) (v5 : Int32) (w0 : Int32) : Option (Int32 × PH) :=
  if ¬ w0 = 0 then
    (f_J6_getChars_ba4f3_L22 FV h v0 v2 v5 w0).bind fun s2 =>
    (alI .byte s2.2.2 84 (-s2.1)).bind fun x4 =>
    (asI .byte s2.2.2 v2 (s2.2.1 + (-1 : Int32)) x4).bind fun h6 =>
    if (-9 : Int32) ≤ s2.1 then
      if w0 = 0 then
        some ((s2.2.1 + (-1 : Int32)), h6)
      else
        (asI .byte h6 v2 ((s2.2.1 + (-1 : Int32)) + (-1 : Int32)) (45 : Int32)).bind fun h10 =>
        some (((s2.2.1 + (-1 : Int32)) + (-1 : Int32)), h10)
    else
      (alI .byte h6 85 (-s2.1)).bind fun x12 =>
      (asI .byte h6 v2 ((s2.2.1 + (-1 : Int32)) + (-1 : Int32)) x12).bind fun h14 =>
      if w0 = 0 then
        some (((s2.2.1 + (-1 : Int32)) + (-1 : Int32)), h14)
      else
        (asI .byte h14 v2 (((s2.2.1 + (-1 : Int32)) + (-1 : Int32)) + (-1 : Int32)) (45 : Int32)).bind fun h17 =>
        some ((((s2.2.1 + (-1 : Int32)) + (-1 : Int32)) + (-1 : Int32)), h17)
  else
    (f_J6_getChars_ba4f3_L22 FV h (-v0) v2 v5 w0).bind fun s19 =>
    (alI .byte s19.2.2 84 (-s19.1)).bind fun x21 =>
    (asI .byte s19.2.2 v2 (s19.2.1 + (-1 : Int32)) x21).bind fun h23 =>
    if (-9 : Int32) ≤ s19.1 then
      if w0 = 0 then
        some ((s19.2.1 + (-1 : Int32)), h23)
      else
        (asI .byte h23 v2 ((s19.2.1 + (-1 : Int32)) + (-1 : Int32)) (45 : Int32)).bind fun h27 =>
        some (((s19.2.1 + (-1 : Int32)) + (-1 : Int32)), h27)
    else
      (alI .byte h23 85 (-s19.1)).bind fun x29 =>
      (asI .byte h23 v2 ((s19.2.1 + (-1 : Int32)) + (-1 : Int32)) x29).bind fun h31 =>
      if w0 = 0 then
        some (((s19.2.1 + (-1 : Int32)) + (-1 : Int32)), h31)
      else
        (asI .byte h31 v2 (((s19.2.1 + (-1 : Int32)) + (-1 : Int32)) + (-1 : Int32)) (45 : Int32)).bind fun h34 =>
        some ((((s19.2.1 + (-1 : Int32)) + (-1 : Int32)) + (-1 : Int32)), h34)
theorem b_J6_getChars_ba4f3_J12 {X : PX} (E : z_E X cJ6_getChars_ba4f3 RJ6 "getChars" 7 rmJ6_getChars_ba4f3 (some .int)) (T0 : z_T0 X) {k n : Nat} (hk : k + 0 ≤ rmJ6_getChars_ba4f3.cells) (hn : n + 0 ≤ rmJ6_getChars_ba4f3.slots) {h : PH} {v0 : Int32} {v2 : Nat} {v5 : Int32} {w0 : Int32} {r : (Int32 × PH)} (e : f_J6_getChars_ba4f3_J12 h v0 v2 v5 w0 = some r) (M : z_M X rmJ6_getChars_ba4f3.cells rmJ6_getChars_ba4f3.slots (.inr (some (.int r.1))) r.2) : WP X 7 k n 12 [(0, .int v0), (2, .ref v2), (5, .int v5)] [.int w0] h := by
  unfold f_J6_getChars_ba4f3_J12 at e
  refine z_istore (lv2 := [(6, .int w0), (0, .int v0), (2, .ref v2), (5, .int v5)]) E dJ6_getChars_ba4f3_12 (by decide) rfl ?_
  refine z_iload E 0 dJ6_getChars_ba4f3_14 rfl ?_
  rcases oi e with ⟨c1, e⟩ | ⟨c1, e⟩
  · refine z_if_neT (tgt := 22) E dJ6_getChars_ba4f3_16 rfl c1 ?_
    obtain ⟨s2, e3, e⟩ := ob e
    refine z_sub [1, 2, 3, 0] rfl (b_J6_getChars_ba4f3_L22 E T0 (zk (k := k) (a := 0) hk (by decide)) (zk (k := n) (a := 0) hn (by decide)) FV _ _ _ _ _ e3 ?_)
    refine z_aload_n E 1 dJ6_getChars_ba4f3_72 rfl ?_
    refine z_iinc (v := (s2.2.1 + (-1 : Int32))) (lv2 := [(5, .int (s2.2.1 + (-1 : Int32))), (0, .int s2.1), (2, .ref v2), (6, .int w0)]) E 2 dJ6_getChars_ba4f3_73 rfl (congrArg (s2.2.1 + ·) ic_m1) (by decide) rfl ?_
    refine z_iload E 0 dJ6_getChars_ba4f3_76 rfl ?_
    refine z_gets E (List.mem_of_getElem? (i := 2) rfl) gs_J6_83 dJ6_getChars_ba4f3_78 ?_
    refine z_iload_n E 1 dJ6_getChars_ba4f3_81 rfl ?_
    refine z_ineg E dJ6_getChars_ba4f3_82 ?_
    obtain ⟨x4, e5, e⟩ := ob e
    refine z_bald E dJ6_getChars_ba4f3_83 e5 ?_
    obtain ⟨h6, e7, e⟩ := ob e
    refine z_bast E dJ6_getChars_ba4f3_84 e7 ?_
    refine z_iload_n E 1 dJ6_getChars_ba4f3_85 rfl ?_
    refine z_bipush E dJ6_getChars_ba4f3_86 bp_m9 ?_
    rcases oi e with ⟨c8, e⟩ | ⟨c8, e⟩
    · refine z_icmp_geT (tgt := 104) E dJ6_getChars_ba4f3_88 rfl c8 ?_
      refine z_iload E 3 dJ6_getChars_ba4f3_104 rfl ?_
      rcases oi e with ⟨c9, e⟩ | ⟨c9, e⟩
      · refine z_if_eqT (tgt := 118) E dJ6_getChars_ba4f3_106 rfl c9 ?_
        refine z_iload E 0 dJ6_getChars_ba4f3_118 rfl ?_
        obtain rfl := Option.some.inj e
        exact z_iret E M dJ6_getChars_ba4f3_120 rfl rfl rfl rfl (zk (k := k) (a := 0) hk (by decide)) (zk (k := n) (a := 0) hn (by decide))
      · refine z_if_eqF (tgt := 118) E dJ6_getChars_ba4f3_106 rfl c9 ?_
        refine z_aload_n E 2 dJ6_getChars_ba4f3_109 rfl ?_
        refine z_iinc (v := ((s2.2.1 + (-1 : Int32)) + (-1 : Int32))) (lv2 := [(5, .int ((s2.2.1 + (-1 : Int32)) + (-1 : Int32))), (0, .int s2.1), (2, .ref v2), (6, .int w0)]) E 0 dJ6_getChars_ba4f3_110 rfl (congrArg ((s2.2.1 + (-1 : Int32)) + ·) ic_m1) (by decide) rfl ?_
        refine z_iload E 0 dJ6_getChars_ba4f3_113 rfl ?_
        refine z_bipush E dJ6_getChars_ba4f3_115 bp_45 ?_
        obtain ⟨h10, e11, e⟩ := ob e
        refine z_bast E dJ6_getChars_ba4f3_117 e11 ?_
        refine z_iload E 0 dJ6_getChars_ba4f3_118 rfl ?_
        obtain rfl := Option.some.inj e
        exact z_iret E M dJ6_getChars_ba4f3_120 rfl rfl rfl rfl (zk (k := k) (a := 0) hk (by decide)) (zk (k := n) (a := 0) hn (by decide))
    · refine z_icmp_geF (tgt := 104) E dJ6_getChars_ba4f3_88 rfl c8 ?_
      refine z_aload_n E 2 dJ6_getChars_ba4f3_91 rfl ?_
      refine z_iinc (v := ((s2.2.1 + (-1 : Int32)) + (-1 : Int32))) (lv2 := [(5, .int ((s2.2.1 + (-1 : Int32)) + (-1 : Int32))), (0, .int s2.1), (2, .ref v2), (6, .int w0)]) E 0 dJ6_getChars_ba4f3_92 rfl (congrArg ((s2.2.1 + (-1 : Int32)) + ·) ic_m1) (by decide) rfl ?_
      refine z_iload E 0 dJ6_getChars_ba4f3_95 rfl ?_
      refine z_gets E (List.mem_of_getElem? (i := 3) rfl) gs_J6_87 dJ6_getChars_ba4f3_97 ?_
      refine z_iload_n E 1 dJ6_getChars_ba4f3_100 rfl ?_
      refine z_ineg E dJ6_getChars_ba4f3_101 ?_
      obtain ⟨x12, e13, e⟩ := ob e
      refine z_bald E dJ6_getChars_ba4f3_102 e13 ?_
      obtain ⟨h14, e15, e⟩ := ob e
      refine z_bast E dJ6_getChars_ba4f3_103 e15 ?_
      refine z_iload E 3 dJ6_getChars_ba4f3_104 rfl ?_
      rcases oi e with ⟨c16, e⟩ | ⟨c16, e⟩
      · refine z_if_eqT (tgt := 118) E dJ6_getChars_ba4f3_106 rfl c16 ?_
        refine z_iload E 0 dJ6_getChars_ba4f3_118 rfl ?_
        obtain rfl := Option.some.inj e
        exact z_iret E M dJ6_getChars_ba4f3_120 rfl rfl rfl rfl (zk (k := k) (a := 0) hk (by decide)) (zk (k := n) (a := 0) hn (by decide))
      · refine z_if_eqF (tgt := 118) E dJ6_getChars_ba4f3_106 rfl c16 ?_
        refine z_aload_n E 2 dJ6_getChars_ba4f3_109 rfl ?_
        refine z_iinc (v := (((s2.2.1 + (-1 : Int32)) + (-1 : Int32)) + (-1 : Int32))) (lv2 := [(5, .int (((s2.2.1 + (-1 : Int32)) + (-1 : Int32)) + (-1 : Int32))), (0, .int s2.1), (2, .ref v2), (6, .int w0)]) E 0 dJ6_getChars_ba4f3_110 rfl (congrArg (((s2.2.1 + (-1 : Int32)) + (-1 : Int32)) + ·) ic_m1) (by decide) rfl ?_
        refine z_iload E 0 dJ6_getChars_ba4f3_113 rfl ?_
        refine z_bipush E dJ6_getChars_ba4f3_115 bp_45 ?_
        obtain ⟨h17, e18, e⟩ := ob e
        refine z_bast E dJ6_getChars_ba4f3_117 e18 ?_
        refine z_iload E 0 dJ6_getChars_ba4f3_118 rfl ?_
        obtain rfl := Option.some.inj e
        exact z_iret E M dJ6_getChars_ba4f3_120 rfl rfl rfl rfl (zk (k := k) (a := 0) hk (by decide)) (zk (k := n) (a := 0) hn (by decide))
  · refine z_if_neF (tgt := 22) E dJ6_getChars_ba4f3_16 rfl (Classical.not_not.mp c1) ?_
    refine z_iload_n E 1 dJ6_getChars_ba4f3_19 rfl ?_
    refine z_ineg E dJ6_getChars_ba4f3_20 ?_
    refine z_istore_n (lv2 := [(0, .int (-v0)), (6, .int w0), (2, .ref v2), (5, .int v5)]) E dJ6_getChars_ba4f3_21 (by decide) rfl ?_
    obtain ⟨s19, e20, e⟩ := ob e
    refine z_sub [0, 2, 3, 1] rfl (b_J6_getChars_ba4f3_L22 E T0 (zk (k := k) (a := 0) hk (by decide)) (zk (k := n) (a := 0) hn (by decide)) FV _ _ _ _ _ e20 ?_)
    refine z_aload_n E 1 dJ6_getChars_ba4f3_72 rfl ?_
    refine z_iinc (v := (s19.2.1 + (-1 : Int32))) (lv2 := [(5, .int (s19.2.1 + (-1 : Int32))), (0, .int s19.1), (2, .ref v2), (6, .int w0)]) E 2 dJ6_getChars_ba4f3_73 rfl (congrArg (s19.2.1 + ·) ic_m1) (by decide) rfl ?_
    refine z_iload E 0 dJ6_getChars_ba4f3_76 rfl ?_
    refine z_gets E (List.mem_of_getElem? (i := 2) rfl) gs_J6_83 dJ6_getChars_ba4f3_78 ?_
    refine z_iload_n E 1 dJ6_getChars_ba4f3_81 rfl ?_
    refine z_ineg E dJ6_getChars_ba4f3_82 ?_
    obtain ⟨x21, e22, e⟩ := ob e
    refine z_bald E dJ6_getChars_ba4f3_83 e22 ?_
    obtain ⟨h23, e24, e⟩ := ob e
    refine z_bast E dJ6_getChars_ba4f3_84 e24 ?_
    refine z_iload_n E 1 dJ6_getChars_ba4f3_85 rfl ?_
    refine z_bipush E dJ6_getChars_ba4f3_86 bp_m9 ?_
    rcases oi e with ⟨c25, e⟩ | ⟨c25, e⟩
    · refine z_icmp_geT (tgt := 104) E dJ6_getChars_ba4f3_88 rfl c25 ?_
      refine z_iload E 3 dJ6_getChars_ba4f3_104 rfl ?_
      rcases oi e with ⟨c26, e⟩ | ⟨c26, e⟩
      · refine z_if_eqT (tgt := 118) E dJ6_getChars_ba4f3_106 rfl c26 ?_
        refine z_iload E 0 dJ6_getChars_ba4f3_118 rfl ?_
        obtain rfl := Option.some.inj e
        exact z_iret E M dJ6_getChars_ba4f3_120 rfl rfl rfl rfl (zk (k := k) (a := 0) hk (by decide)) (zk (k := n) (a := 0) hn (by decide))
      · refine z_if_eqF (tgt := 118) E dJ6_getChars_ba4f3_106 rfl c26 ?_
        refine z_aload_n E 2 dJ6_getChars_ba4f3_109 rfl ?_
        refine z_iinc (v := ((s19.2.1 + (-1 : Int32)) + (-1 : Int32))) (lv2 := [(5, .int ((s19.2.1 + (-1 : Int32)) + (-1 : Int32))), (0, .int s19.1), (2, .ref v2), (6, .int w0)]) E 0 dJ6_getChars_ba4f3_110 rfl (congrArg ((s19.2.1 + (-1 : Int32)) + ·) ic_m1) (by decide) rfl ?_
        refine z_iload E 0 dJ6_getChars_ba4f3_113 rfl ?_
        refine z_bipush E dJ6_getChars_ba4f3_115 bp_45 ?_
        obtain ⟨h27, e28, e⟩ := ob e
        refine z_bast E dJ6_getChars_ba4f3_117 e28 ?_
        refine z_iload E 0 dJ6_getChars_ba4f3_118 rfl ?_
        obtain rfl := Option.some.inj e
        exact z_iret E M dJ6_getChars_ba4f3_120 rfl rfl rfl rfl (zk (k := k) (a := 0) hk (by decide)) (zk (k := n) (a := 0) hn (by decide))
    · refine z_icmp_geF (tgt := 104) E dJ6_getChars_ba4f3_88 rfl c25 ?_
      refine z_aload_n E 2 dJ6_getChars_ba4f3_91 rfl ?_
      refine z_iinc (v := ((s19.2.1 + (-1 : Int32)) + (-1 : Int32))) (lv2 := [(5, .int ((s19.2.1 + (-1 : Int32)) + (-1 : Int32))), (0, .int s19.1), (2, .ref v2), (6, .int w0)]) E 0 dJ6_getChars_ba4f3_92 rfl (congrArg ((s19.2.1 + (-1 : Int32)) + ·) ic_m1) (by decide) rfl ?_
      refine z_iload E 0 dJ6_getChars_ba4f3_95 rfl ?_
      refine z_gets E (List.mem_of_getElem? (i := 3) rfl) gs_J6_87 dJ6_getChars_ba4f3_97 ?_
      refine z_iload_n E 1 dJ6_getChars_ba4f3_100 rfl ?_
      refine z_ineg E dJ6_getChars_ba4f3_101 ?_
      obtain ⟨x29, e30, e⟩ := ob e
      refine z_bald E dJ6_getChars_ba4f3_102 e30 ?_
      obtain ⟨h31, e32, e⟩ := ob e
      refine z_bast E dJ6_getChars_ba4f3_103 e32 ?_
      refine z_iload E 3 dJ6_getChars_ba4f3_104 rfl ?_
      rcases oi e with ⟨c33, e⟩ | ⟨c33, e⟩
      · refine z_if_eqT (tgt := 118) E dJ6_getChars_ba4f3_106 rfl c33 ?_
        refine z_iload E 0 dJ6_getChars_ba4f3_118 rfl ?_
        obtain rfl := Option.some.inj e
        exact z_iret E M dJ6_getChars_ba4f3_120 rfl rfl rfl rfl (zk (k := k) (a := 0) hk (by decide)) (zk (k := n) (a := 0) hn (by decide))
      · refine z_if_eqF (tgt := 118) E dJ6_getChars_ba4f3_106 rfl c33 ?_
        refine z_aload_n E 2 dJ6_getChars_ba4f3_109 rfl ?_
        refine z_iinc (v := (((s19.2.1 + (-1 : Int32)) + (-1 : Int32)) + (-1 : Int32))) (lv2 := [(5, .int (((s19.2.1 + (-1 : Int32)) + (-1 : Int32)) + (-1 : Int32))), (0, .int s19.1), (2, .ref v2), (6, .int w0)]) E 0 dJ6_getChars_ba4f3_110 rfl (congrArg (((s19.2.1 + (-1 : Int32)) + (-1 : Int32)) + ·) ic_m1) (by decide) rfl ?_
        refine z_iload E 0 dJ6_getChars_ba4f3_113 rfl ?_
        refine z_bipush E dJ6_getChars_ba4f3_115 bp_45 ?_
        obtain ⟨h34, e35, e⟩ := ob e
        refine z_bast E dJ6_getChars_ba4f3_117 e35 ?_
        refine z_iload E 0 dJ6_getChars_ba4f3_118 rfl ?_
        obtain rfl := Option.some.inj e
        exact z_iret E M dJ6_getChars_ba4f3_120 rfl rfl rfl rfl (zk (k := k) (a := 0) hk (by decide)) (zk (k := n) (a := 0) hn (by decide))
noncomputable def f_J6_getChars_ba4f3 (h : PH) (a0 : Int32) (a1 : Int32) (a2 : Nat) : Option (Int32 × PH) :=
  if 0 ≤ a0 then
    f_J6_getChars_ba4f3_J12 h a0 a2 a1 (0 : Int32)
  else
    f_J6_getChars_ba4f3_J12 h a0 a2 a1 (1 : Int32)
theorem b_J6_getChars_ba4f3 {X : PX} (E : z_E X cJ6_getChars_ba4f3 RJ6 "getChars" 7 rmJ6_getChars_ba4f3 (some .int)) (T0 : z_T0 X) {h : PH} {a0 : Int32} {a1 : Int32} {a2 : Nat} {r : (Int32 × PH)} (e : f_J6_getChars_ba4f3 h a0 a1 a2 = some r) (M : z_M X rmJ6_getChars_ba4f3.cells rmJ6_getChars_ba4f3.slots (.inr (some (.int r.1))) r.2) : WP X 7 0 0 0 [(0, .int a0), (1, .int a1), (2, .ref a2)] [] h := by
  unfold f_J6_getChars_ba4f3 at e
  refine z_iload_n E 1 dJ6_getChars_ba4f3_0 rfl ?_
  refine z_istore (lv2 := [(5, .int a1), (0, .int a0), (1, .int a1), (2, .ref a2)]) E dJ6_getChars_ba4f3_1 (by decide) rfl ?_
  refine z_iload_n E 1 dJ6_getChars_ba4f3_3 rfl ?_
  rcases oi e with ⟨c1, e⟩ | ⟨c1, e⟩
  · refine z_if_geT (tgt := 11) E dJ6_getChars_ba4f3_4 rfl c1 ?_
    refine z_iconst E dJ6_getChars_ba4f3_11 ic_0 ?_
    exact z_sub [1, 3, 0] rfl (b_J6_getChars_ba4f3_J12 E T0 (by decide) (by decide) e M)
  · refine z_if_geF (tgt := 11) E dJ6_getChars_ba4f3_4 rfl c1 ?_
    refine z_iconst E dJ6_getChars_ba4f3_7 ic_1 ?_
    refine z_goto (tgt := 12) E dJ6_getChars_ba4f3_8 rfl ?_
    exact z_sub [1, 3, 0] rfl (b_J6_getChars_ba4f3_J12 E T0 (by decide) (by decide) e M)
theorem c_J6_getChars_ba4f3 {l : Launch} (hl : l.stackTraces = false) {h : PH} {a0 : Int32} {a1 : Int32} {a2 : Nat} {r : (Int32 × PH)} (e : f_J6_getChars_ba4f3 h a0 a1 a2 = some r) : CMet l yJ6_getChars_ba4f3 (z_W yJ6_getChars_ba4f3 cJ6_getChars_ba4f3 7 (some .int)) rmJ6_getChars_ba4f3 h [.int a0, .int a1, .ref a2] (.inr (some (.int r.1))) r.2 :=
  z_met hl Y_J6_getChars_ba4f3 (by decide +kernel) (Nat.le_of_ble_eq_true rfl) (fun X hX E T0 M => b_J6_getChars_ba4f3 E T0 e M)
abbrev rmJ5_append_c97b9 : Room := { frames := 4, cells := 1, slots := 64, locals := 104 }
noncomputable def f_J5_append_c97b9 (h : PH) (a0 : Nat) (a1 : Int32) : Option (Nat × PH) :=
  (rdI h a0 1 3).bind fun x1 =>
  (f_J6_stringSize_0f7a4 a1).bind fun p3 =>
  (gd h a0 1).bind fun _ =>
  (f_J5_ensureCapacityInternal_d00df h a0 (x1 + p3)).bind fun p6 =>
  (gd p6 a0 1).bind fun _ =>
  (f_J5_isLatin1_aae02 p6 a0).bind fun p9 =>
  if p9 = false then
    (rdR p6 a0 1 0).bind fun x12 =>
    none
  else
    (rdR p6 a0 1 0).bind fun x14 =>
    (f_J6_getChars_ba4f3 p6 a1 (x1 + p3) x14).bind fun p16 =>
    (wr p16.2 a0 1 3 (.int (x1 + p3))).bind fun h18 =>
    some (a0, h18)
theorem b_J5_append_c97b9 {X : PX} (E : z_E X cJ5_append_c97b9 RJ5 "append" 4 rmJ5_append_c97b9 (some (.object "java/lang/AbstractStringBuilder"))) (T0 : z_T0 X) {h : PH} {a0 : Nat} {a1 : Int32} {r : (Nat × PH)} (e : f_J5_append_c97b9 h a0 a1 = some r) (M : z_M X rmJ5_append_c97b9.cells rmJ5_append_c97b9.slots (.inr (some (.ref r.1))) r.2) : WP X 4 0 0 0 [(0, .ref a0), (1, .int a1)] [] h := by
  unfold f_J5_append_c97b9 at e
  refine z_aload_n E 0 dJ5_append_c97b9_0 rfl ?_
  obtain ⟨x1, e2, e⟩ := ob e
  refine z_getI E fl_J5_79 dJ5_append_c97b9_1 e2 ?_
  refine z_istore_n (lv2 := [(2, .int x1), (0, .ref a0), (1, .int a1)]) E dJ5_append_c97b9_4 (by decide) rfl ?_
  refine z_iload_n E 0 dJ5_append_c97b9_5 rfl ?_
  refine z_iload_n E 2 dJ5_append_c97b9_6 rfl ?_
  obtain ⟨p3, e4, e⟩ := ob e
  refine z_kR2 (st := [.int x1]) (av := [.int a1]) E 0 0 (z_rS (st := [.int x1]) (av := [.int a1]) E Y_J6_stringSize_0f7a4 k_J5_245 (c_J6_stringSize_0f7a4 (z_El E) e4) dJ5_append_c97b9_7 rfl rfl (by decide) (by decide) (by decide) (by decide) (Nat.le_of_ble_eq_true rfl)) rfl rfl rfl ?_
  refine z_iadd E dJ5_append_c97b9_10 ?_
  refine z_istore_n (lv2 := [(3, .int (x1 + p3)), (2, .int x1), (0, .ref a0), (1, .int a1)]) E dJ5_append_c97b9_11 (by decide) rfl ?_
  refine z_aload_n E 2 dJ5_append_c97b9_12 rfl ?_
  refine z_iload_n E 0 dJ5_append_c97b9_13 rfl ?_
  obtain ⟨_, e5, e⟩ := ob e
  obtain ⟨p6, e7, e⟩ := ob e
  refine z_kV2 (st := []) (av := [.ref a0, .int (x1 + p3)]) E 1 64 (z_rV (st := []) (av := [.int (x1 + p3)]) E Y_J5_ensureCapacityInternal_d00df k_J5_100 (ci := 1) rfl (c_J5_ensureCapacityInternal_d00df (z_El E) e7) dJ5_append_c97b9_14 e5 rfl rfl (by decide) (by decide) (by decide) (by decide) (Nat.zero_le _)) rfl rfl rfl ?_
  refine z_aload_n E 2 dJ5_append_c97b9_17 rfl ?_
  obtain ⟨_, e8, e⟩ := ob e
  obtain ⟨p9, e10, e⟩ := ob e
  refine z_kR2 (st := []) (av := [.ref a0]) E 1 64 (z_rV (st := []) (av := []) E Y_J5_isLatin1_aae02 k_J5_83 (ci := 1) rfl (c_J5_isLatin1_aae02 (z_El E) e10) dJ5_append_c97b9_18 e8 rfl rfl (by decide) (by decide) (by decide) (by decide) (Nat.zero_le _)) rfl rfl rfl ?_
  rcases oi e with ⟨c11, e⟩ | ⟨c11, e⟩
  · refine z_if_eqT (tgt := 37) E dJ5_append_c97b9_21 rfl (zb_f c11) ?_
    refine z_iload_n E 3 dJ5_append_c97b9_37 rfl ?_
    refine z_iload_n E 1 dJ5_append_c97b9_38 rfl ?_
    refine z_iload_n E 0 dJ5_append_c97b9_39 rfl ?_
    refine z_aload_n E 2 dJ5_append_c97b9_40 rfl ?_
    obtain ⟨x12, e13, e⟩ := ob e
    refine z_getR E fl_J5_15 dJ5_append_c97b9_41 e13 ?_
    cases e
  · refine z_if_eqF (tgt := 37) E dJ5_append_c97b9_21 rfl (zb_nf c11) ?_
    refine z_iload_n E 3 dJ5_append_c97b9_24 rfl ?_
    refine z_iload_n E 0 dJ5_append_c97b9_25 rfl ?_
    refine z_aload_n E 2 dJ5_append_c97b9_26 rfl ?_
    obtain ⟨x14, e15, e⟩ := ob e
    refine z_getR E fl_J5_15 dJ5_append_c97b9_27 e15 ?_
    obtain ⟨p16, e17, e⟩ := ob e
    refine z_kR2 (st := []) (av := [.int a1, .int (x1 + p3), .ref x14]) E 1 64 (z_rS (st := []) (av := [.int a1, .int (x1 + p3), .ref x14]) E Y_J6_getChars_ba4f3 k_J5_248 (c_J6_getChars_ba4f3 (z_El E) e17) dJ5_append_c97b9_30 rfl rfl (by decide) (by decide) (by decide) (by decide) (Nat.zero_le _)) rfl rfl rfl ?_
    refine z_pop E dJ5_append_c97b9_33 rfl ?_
    refine z_goto (tgt := 48) E dJ5_append_c97b9_34 rfl ?_
    refine z_aload_n E 2 dJ5_append_c97b9_48 rfl ?_
    refine z_iload_n E 0 dJ5_append_c97b9_49 rfl ?_
    obtain ⟨h18, e19, e⟩ := ob e
    refine z_putI E fp_J5_79 (Or.inl rfl) dJ5_append_c97b9_50 e19 ?_
    refine z_aload_n E 2 dJ5_append_c97b9_53 rfl ?_
    obtain rfl := Option.some.inj e
    exact z_aret E M dJ5_append_c97b9_54 rfl (Or.inl ⟨_, rfl⟩) rfl rfl (by decide) (by decide)
theorem c_J5_append_c97b9 {l : Launch} (hl : l.stackTraces = false) {h : PH} {a0 : Nat} {a1 : Int32} {r : (Nat × PH)} (e : f_J5_append_c97b9 h a0 a1 = some r) : CMet l yJ5_append_c97b9 (z_W yJ5_append_c97b9 cJ5_append_c97b9 4 (some (.object "java/lang/AbstractStringBuilder"))) rmJ5_append_c97b9 h [.ref a0, .int a1] (.inr (some (.ref r.1))) r.2 :=
  z_met hl Y_J5_append_c97b9 (by decide +kernel) (Nat.le_of_ble_eq_true rfl) (fun X hX E T0 M => b_J5_append_c97b9 E T0 e M)
abbrev rmJ4_append_bf812 : Room := { frames := 5, cells := 1, slots := 64, locals := 127 }
noncomputable def f_J4_append_bf812 (h : PH) (a0 : Nat) (a1 : Int32) : Option (Nat × PH) :=
  (gd h a0 1).bind fun _ =>
  (f_J5_append_c97b9 h a0 a1).bind fun p2 =>
  some (a0, p2.2)
theorem b_J4_append_bf812 {X : PX} (E : z_E X cJ4_append_bf812 RJ4 "append" 2 rmJ4_append_bf812 (some (.object "java/lang/StringBuilder"))) (T0 : z_T0 X) {h : PH} {a0 : Nat} {a1 : Int32} {r : (Nat × PH)} (e : f_J4_append_bf812 h a0 a1 = some r) (M : z_M X rmJ4_append_bf812.cells rmJ4_append_bf812.slots (.inr (some (.ref r.1))) r.2) : WP X 2 0 0 0 [(0, .ref a0), (1, .int a1)] [] h := by
  unfold f_J4_append_bf812 at e
  refine z_aload_n E 0 dJ4_append_bf812_0 rfl ?_
  refine z_iload_n E 1 dJ4_append_bf812_1 rfl ?_
  obtain ⟨_, e1, e⟩ := ob e
  obtain ⟨p2, e3, e⟩ := ob e
  refine z_kR2 (st := []) (av := [.ref a0, .int a1]) E 1 64 (z_rSU (st := []) (av := [.int a1]) E Y_J5_append_c97b9 k_J4_53 (ci := 1) rfl (c_J5_append_c97b9 (z_El E) e3) dJ4_append_bf812_2 e1 rfl rfl (by decide) (by decide) (by decide) (by decide) (Nat.zero_le _)) rfl rfl rfl ?_
  refine z_pop E dJ4_append_bf812_5 rfl ?_
  refine z_aload_n E 0 dJ4_append_bf812_6 rfl ?_
  obtain rfl := Option.some.inj e
  exact z_aret E M dJ4_append_bf812_7 rfl (Or.inl ⟨_, rfl⟩) rfl rfl (by decide) (by decide)
theorem c_J4_append_bf812 {l : Launch} (hl : l.stackTraces = false) {h : PH} {a0 : Nat} {a1 : Int32} {r : (Nat × PH)} (e : f_J4_append_bf812 h a0 a1 = some r) : CMet l yJ4_append_bf812 (z_W yJ4_append_bf812 cJ4_append_bf812 2 (some (.object "java/lang/StringBuilder"))) rmJ4_append_bf812 h [.ref a0, .int a1] (.inr (some (.ref r.1))) r.2 :=
  z_met hl Y_J4_append_bf812 (by decide +kernel) (Nat.le_of_ble_eq_true rfl) (fun X hX E T0 M => b_J4_append_bf812 E T0 e M)
abbrev rmJ1_canEncode_fc78d : Room := { frames := 0, cells := 0, slots := 0, locals := 0 }
noncomputable def f_J1_canEncode_fc78d (a0 : Int32) : Bool :=
  if (255 : Int32) < a0 then
    false
  else
    true
theorem b_J1_canEncode_fc78d {X : PX} (E : z_E X cJ1_canEncode_fc78d RJ1 "canEncode" 1 rmJ1_canEncode_fc78d (some .boolean)) (T0 : z_T0 X) {h : PH} {a0 : Int32} {r : Bool} (e : f_J1_canEncode_fc78d a0 = r) (M : z_M X rmJ1_canEncode_fc78d.cells rmJ1_canEncode_fc78d.slots (.inr (some (.int (zb r)))) h) : WP X 1 0 0 0 [(0, .int a0)] [] h := by
  unfold f_J1_canEncode_fc78d at e
  refine z_iload_n E 0 dJ1_canEncode_fc78d_0 rfl ?_
  refine z_sipush E dJ1_canEncode_fc78d_1 sp_255 ?_
  rcases oi e with ⟨c1, e⟩ | ⟨c1, e⟩
  · refine z_icmp_gtT (tgt := 11) E dJ1_canEncode_fc78d_4 rfl c1 ?_
    refine z_iconst E dJ1_canEncode_fc78d_11 ic_0 ?_
    subst e
    exact z_iret E M dJ1_canEncode_fc78d_12 rfl rfl rfl rfl (by decide) (by decide)
  · refine z_icmp_gtF (tgt := 11) E dJ1_canEncode_fc78d_4 rfl c1 ?_
    refine z_iconst E dJ1_canEncode_fc78d_7 ic_1 ?_
    refine z_goto (tgt := 12) E dJ1_canEncode_fc78d_8 rfl ?_
    subst e
    exact z_iret E M dJ1_canEncode_fc78d_12 rfl rfl rfl rfl (by decide) (by decide)
theorem c_J1_canEncode_fc78d {l : Launch} (hl : l.stackTraces = false) {h : PH} (a0 : Int32) : CMet l yJ1_canEncode_fc78d (z_W yJ1_canEncode_fc78d cJ1_canEncode_fc78d 1 (some .boolean)) rmJ1_canEncode_fc78d h [.int a0] (.inr (some (.int (zb (f_J1_canEncode_fc78d a0))))) h :=
  z_met hl Y_J1_canEncode_fc78d (by decide +kernel) (Nat.le_of_ble_eq_true rfl) (fun X hX E T0 M => b_J1_canEncode_fc78d E T0 rfl M)
abbrev rmJ5_append_3fe6f : Room := { frames := 4, cells := 1, slots := 64, locals := 104 }
noncomputable def f_J5_append_3fe6f_J45 (h : PH) (v0 : Nat) (v1 : Int32) : Option (Nat × PH) :=
  (gd h v0 1).bind fun _ =>
  (f_J5_isLatin1_aae02 h v0).bind fun p2 =>
  if p2 = false then
    (rdR h v0 1 0).bind fun x5 =>
    (rdI h v0 1 3).bind fun x7 =>
    (wr h v0 1 3 (.int (x7 + (1 : Int32)))).bind fun h9 =>
    none
  else
    none
theorem b_J5_append_3fe6f_J45 {X : PX} (E : z_E X cJ5_append_3fe6f RJ5 "append" 2 rmJ5_append_3fe6f (some (.object "java/lang/AbstractStringBuilder"))) (T0 : z_T0 X) {k n : Nat} (hk : k + 0 ≤ rmJ5_append_3fe6f.cells) (hn : n + 0 ≤ rmJ5_append_3fe6f.slots) {h : PH} {v0 : Nat} {v1 : Int32} {r : (Nat × PH)} (e : f_J5_append_3fe6f_J45 h v0 v1 = some r) (M : z_M X rmJ5_append_3fe6f.cells rmJ5_append_3fe6f.slots (.inr (some (.ref r.1))) r.2) : WP X 2 k n 45 [(0, .ref v0), (1, .int v1)] [] h := by
  unfold f_J5_append_3fe6f_J45 at e
  refine z_aload_n E 0 dJ5_append_3fe6f_45 rfl ?_
  obtain ⟨_, e1, e⟩ := ob e
  obtain ⟨p2, e3, e⟩ := ob e
  refine z_kR2 (st := []) (av := [.ref v0]) E k n (z_rV (st := []) (av := []) E Y_J5_isLatin1_aae02 k_J5_83 (ci := 1) rfl (c_J5_isLatin1_aae02 (z_El E) e3) dJ5_append_3fe6f_46 e1 rfl rfl (by decide) (by decide) (zk (k := k) (a := 0) hk (by decide)) (zk (k := n) (a := 0) hn (by decide)) (Nat.zero_le _)) rfl rfl rfl ?_
  rcases oi e with ⟨c4, e⟩ | ⟨c4, e⟩
  · refine z_if_eqT (tgt := 56) E dJ5_append_3fe6f_49 rfl (zb_f c4) ?_
    refine z_aload_n E 0 dJ5_append_3fe6f_56 rfl ?_
    obtain ⟨x5, e6, e⟩ := ob e
    refine z_getR E fl_J5_15 dJ5_append_3fe6f_57 e6 ?_
    refine z_aload_n E 0 dJ5_append_3fe6f_60 rfl ?_
    refine z_dup E dJ5_append_3fe6f_61 rfl ?_
    obtain ⟨x7, e8, e⟩ := ob e
    refine z_getI E fl_J5_79 dJ5_append_3fe6f_62 e8 ?_
    refine z_dup_x1 E dJ5_append_3fe6f_65 rfl rfl ?_
    refine z_iconst E dJ5_append_3fe6f_66 ic_1 ?_
    refine z_iadd E dJ5_append_3fe6f_67 ?_
    obtain ⟨h9, e10, e⟩ := ob e
    refine z_putI E fp_J5_79 (Or.inl rfl) dJ5_append_3fe6f_68 e10 ?_
    refine z_iload_n E 1 dJ5_append_3fe6f_71 rfl ?_
    cases e
  · refine z_if_eqF (tgt := 56) E dJ5_append_3fe6f_49 rfl (zb_nf c4) ?_
    refine z_aload_n E 0 dJ5_append_3fe6f_52 rfl ?_
    cases e
noncomputable def f_J5_append_3fe6f (h : PH) (a0 : Nat) (a1 : Int32) : Option (Nat × PH) :=
  (rdI h a0 1 3).bind fun x1 =>
  (gd h a0 1).bind fun _ =>
  (f_J5_ensureCapacityInternal_d00df h a0 (x1 + (1 : Int32))).bind fun p4 =>
  (gd p4 a0 1).bind fun _ =>
  (f_J5_isLatin1_aae02 p4 a0).bind fun p7 =>
  if p7 = false then
    f_J5_append_3fe6f_J45 p4 a0 a1
  else
    if (f_J1_canEncode_fc78d a1) = false then
      f_J5_append_3fe6f_J45 p4 a0 a1
    else
      (rdR p4 a0 1 0).bind fun x11 =>
      (rdI p4 a0 1 3).bind fun x13 =>
      (wr p4 a0 1 3 (.int (x13 + (1 : Int32)))).bind fun h15 =>
      (asI .byte h15 x11 x13 (zi2b a1)).bind fun h17 =>
      some (a0, h17)
theorem b_J5_append_3fe6f {X : PX} (E : z_E X cJ5_append_3fe6f RJ5 "append" 2 rmJ5_append_3fe6f (some (.object "java/lang/AbstractStringBuilder"))) (T0 : z_T0 X) {h : PH} {a0 : Nat} {a1 : Int32} {r : (Nat × PH)} (e : f_J5_append_3fe6f h a0 a1 = some r) (M : z_M X rmJ5_append_3fe6f.cells rmJ5_append_3fe6f.slots (.inr (some (.ref r.1))) r.2) : WP X 2 0 0 0 [(0, .ref a0), (1, .int a1)] [] h := by
  unfold f_J5_append_3fe6f at e
  refine z_aload_n E 0 dJ5_append_3fe6f_0 rfl ?_
  refine z_aload_n E 0 dJ5_append_3fe6f_1 rfl ?_
  obtain ⟨x1, e2, e⟩ := ob e
  refine z_getI E fl_J5_79 dJ5_append_3fe6f_2 e2 ?_
  refine z_iconst E dJ5_append_3fe6f_5 ic_1 ?_
  refine z_iadd E dJ5_append_3fe6f_6 ?_
  obtain ⟨_, e3, e⟩ := ob e
  obtain ⟨p4, e5, e⟩ := ob e
  refine z_kV2 (st := []) (av := [.ref a0, .int (x1 + (1 : Int32))]) E 1 64 (z_rV (st := []) (av := [.int (x1 + (1 : Int32))]) E Y_J5_ensureCapacityInternal_d00df k_J5_100 (ci := 1) rfl (c_J5_ensureCapacityInternal_d00df (z_El E) e5) dJ5_append_3fe6f_7 e3 rfl rfl (by decide) (by decide) (by decide) (by decide) (Nat.zero_le _)) rfl rfl rfl ?_
  refine z_aload_n E 0 dJ5_append_3fe6f_10 rfl ?_
  obtain ⟨_, e6, e⟩ := ob e
  obtain ⟨p7, e8, e⟩ := ob e
  refine z_kR2 (st := []) (av := [.ref a0]) E 1 64 (z_rV (st := []) (av := []) E Y_J5_isLatin1_aae02 k_J5_83 (ci := 1) rfl (c_J5_isLatin1_aae02 (z_El E) e8) dJ5_append_3fe6f_11 e6 rfl rfl (by decide) (by decide) (by decide) (by decide) (Nat.zero_le _)) rfl rfl rfl ?_
  rcases oi e with ⟨c9, e⟩ | ⟨c9, e⟩
  · refine z_if_eqT (tgt := 45) E dJ5_append_3fe6f_14 rfl (zb_f c9) ?_
    exact z_sub [0, 1] rfl (b_J5_append_3fe6f_J45 E T0 (by decide) (by decide) e M)
  · refine z_if_eqF (tgt := 45) E dJ5_append_3fe6f_14 rfl (zb_nf c9) ?_
    refine z_iload_n E 1 dJ5_append_3fe6f_17 rfl ?_
    refine z_kR2 (st := []) (av := [.int a1]) E 1 64 (z_rS (st := []) (av := [.int a1]) E Y_J1_canEncode_fc78d k_J5_191 (c_J1_canEncode_fc78d (l := z_l X) (h := p4) (z_El E) a1) dJ5_append_3fe6f_18 rfl rfl (by decide) (by decide) (by decide) (by decide) (Nat.zero_le _)) rfl rfl rfl ?_
    rcases oi e with ⟨c10, e⟩ | ⟨c10, e⟩
    · refine z_if_eqT (tgt := 45) E dJ5_append_3fe6f_21 rfl (zb_f c10) ?_
      exact z_sub [0, 1] rfl (b_J5_append_3fe6f_J45 E T0 (by decide) (by decide) e M)
    · refine z_if_eqF (tgt := 45) E dJ5_append_3fe6f_21 rfl (zb_nf c10) ?_
      refine z_aload_n E 0 dJ5_append_3fe6f_24 rfl ?_
      obtain ⟨x11, e12, e⟩ := ob e
      refine z_getR E fl_J5_15 dJ5_append_3fe6f_25 e12 ?_
      refine z_aload_n E 0 dJ5_append_3fe6f_28 rfl ?_
      refine z_dup E dJ5_append_3fe6f_29 rfl ?_
      obtain ⟨x13, e14, e⟩ := ob e
      refine z_getI E fl_J5_79 dJ5_append_3fe6f_30 e14 ?_
      refine z_dup_x1 E dJ5_append_3fe6f_33 rfl rfl ?_
      refine z_iconst E dJ5_append_3fe6f_34 ic_1 ?_
      refine z_iadd E dJ5_append_3fe6f_35 ?_
      obtain ⟨h15, e16, e⟩ := ob e
      refine z_putI E fp_J5_79 (Or.inl rfl) dJ5_append_3fe6f_36 e16 ?_
      refine z_iload_n E 1 dJ5_append_3fe6f_39 rfl ?_
      refine z_i2b (v := (zi2b a1)) E dJ5_append_3fe6f_40 rfl ?_
      obtain ⟨h17, e18, e⟩ := ob e
      refine z_bast E dJ5_append_3fe6f_41 e18 ?_
      refine z_goto (tgt := 75) E dJ5_append_3fe6f_42 rfl ?_
      refine z_aload_n E 0 dJ5_append_3fe6f_75 rfl ?_
      obtain rfl := Option.some.inj e
      exact z_aret E M dJ5_append_3fe6f_76 rfl (Or.inl ⟨_, rfl⟩) rfl rfl (by decide) (by decide)
theorem c_J5_append_3fe6f {l : Launch} (hl : l.stackTraces = false) {h : PH} {a0 : Nat} {a1 : Int32} {r : (Nat × PH)} (e : f_J5_append_3fe6f h a0 a1 = some r) : CMet l yJ5_append_3fe6f (z_W yJ5_append_3fe6f cJ5_append_3fe6f 2 (some (.object "java/lang/AbstractStringBuilder"))) rmJ5_append_3fe6f h [.ref a0, .int a1] (.inr (some (.ref r.1))) r.2 :=
  z_met hl Y_J5_append_3fe6f (by decide +kernel) (Nat.le_of_ble_eq_true rfl) (fun X hX E T0 M => b_J5_append_3fe6f E T0 e M)
abbrev rmJ4_append_cf468 : Room := { frames := 5, cells := 1, slots := 64, locals := 125 }
noncomputable def f_J4_append_cf468 (h : PH) (a0 : Nat) (a1 : Int32) : Option (Nat × PH) :=
  (gd h a0 1).bind fun _ =>
  (f_J5_append_3fe6f h a0 a1).bind fun p2 =>
  some (a0, p2.2)
theorem b_J4_append_cf468 {X : PX} (E : z_E X cJ4_append_cf468 RJ4 "append" 2 rmJ4_append_cf468 (some (.object "java/lang/StringBuilder"))) (T0 : z_T0 X) {h : PH} {a0 : Nat} {a1 : Int32} {r : (Nat × PH)} (e : f_J4_append_cf468 h a0 a1 = some r) (M : z_M X rmJ4_append_cf468.cells rmJ4_append_cf468.slots (.inr (some (.ref r.1))) r.2) : WP X 2 0 0 0 [(0, .ref a0), (1, .int a1)] [] h := by
  unfold f_J4_append_cf468 at e
  refine z_aload_n E 0 dJ4_append_cf468_0 rfl ?_
  refine z_iload_n E 1 dJ4_append_cf468_1 rfl ?_
  obtain ⟨_, e1, e⟩ := ob e
  obtain ⟨p2, e3, e⟩ := ob e
  refine z_kR2 (st := []) (av := [.ref a0, .int a1]) E 1 64 (z_rSU (st := []) (av := [.int a1]) E Y_J5_append_3fe6f k_J4_50 (ci := 1) rfl (c_J5_append_3fe6f (z_El E) e3) dJ4_append_cf468_2 e1 rfl rfl (by decide) (by decide) (by decide) (by decide) (Nat.zero_le _)) rfl rfl rfl ?_
  refine z_pop E dJ4_append_cf468_5 rfl ?_
  refine z_aload_n E 0 dJ4_append_cf468_6 rfl ?_
  obtain rfl := Option.some.inj e
  exact z_aret E M dJ4_append_cf468_7 rfl (Or.inl ⟨_, rfl⟩) rfl rfl (by decide) (by decide)
theorem c_J4_append_cf468 {l : Launch} (hl : l.stackTraces = false) {h : PH} {a0 : Nat} {a1 : Int32} {r : (Nat × PH)} (e : f_J4_append_cf468 h a0 a1 = some r) : CMet l yJ4_append_cf468 (z_W yJ4_append_cf468 cJ4_append_cf468 2 (some (.object "java/lang/StringBuilder"))) rmJ4_append_cf468 h [.ref a0, .int a1] (.inr (some (.ref r.1))) r.2 :=
  z_met hl Y_J4_append_cf468 (by decide +kernel) (Nat.le_of_ble_eq_true rfl) (fun X hX E T0 M => b_J4_append_cf468 E T0 e M)
abbrev rmJ5_length_8abf5 : Room := { frames := 0, cells := 0, slots := 0, locals := 0 }
noncomputable def f_J5_length_8abf5 (h : PH) (a0 : Nat) : Option Int32 :=
  (rdI h a0 1 3).bind fun x1 =>
  some x1
theorem b_J5_length_8abf5 {X : PX} (E : z_E X cJ5_length_8abf5 RJ5 "length" 1 rmJ5_length_8abf5 (some .int)) (T0 : z_T0 X) {h : PH} {a0 : Nat} {r : Int32} (e : f_J5_length_8abf5 h a0 = some r) (M : z_M X rmJ5_length_8abf5.cells rmJ5_length_8abf5.slots (.inr (some (.int r))) h) : WP X 1 0 0 0 [(0, .ref a0)] [] h := by
  unfold f_J5_length_8abf5 at e
  refine z_aload_n E 0 dJ5_length_8abf5_0 rfl ?_
  obtain ⟨x1, e2, e⟩ := ob e
  refine z_getI E fl_J5_79 dJ5_length_8abf5_1 e2 ?_
  obtain rfl := Option.some.inj e
  exact z_iret E M dJ5_length_8abf5_4 rfl rfl rfl rfl (by decide) (by decide)
theorem c_J5_length_8abf5 {l : Launch} (hl : l.stackTraces = false) {h : PH} {a0 : Nat} {r : Int32} (e : f_J5_length_8abf5 h a0 = some r) : CMet l yJ5_length_8abf5 (z_W yJ5_length_8abf5 cJ5_length_8abf5 1 (some .int)) rmJ5_length_8abf5 h [.ref a0] (.inr (some (.int r))) h :=
  z_met hl Y_J5_length_8abf5 (by decide +kernel) (Nat.le_of_ble_eq_true rfl) (fun X hX E T0 M => b_J5_length_8abf5 E T0 e M)
abbrev rmJ4_length_8abf5 : Room := { frames := 1, cells := 0, slots := 0, locals := 20 }
noncomputable def f_J4_length_8abf5 (h : PH) (a0 : Nat) : Option Int32 :=
  (gd h a0 1).bind fun _ =>
  (f_J5_length_8abf5 h a0).bind fun p2 =>
  some p2
theorem b_J4_length_8abf5 {X : PX} (E : z_E X cJ4_length_8abf5 RJ4 "length" 1 rmJ4_length_8abf5 (some .int)) (T0 : z_T0 X) {h : PH} {a0 : Nat} {r : Int32} (e : f_J4_length_8abf5 h a0 = some r) (M : z_M X rmJ4_length_8abf5.cells rmJ4_length_8abf5.slots (.inr (some (.int r))) h) : WP X 1 0 0 0 [(0, .ref a0)] [] h := by
  unfold f_J4_length_8abf5 at e
  refine z_aload_n E 0 dJ4_length_8abf5_0 rfl ?_
  obtain ⟨_, e1, e⟩ := ob e
  obtain ⟨p2, e3, e⟩ := ob e
  refine z_kR2 (st := []) (av := [.ref a0]) E 0 0 (z_rSU (st := []) (av := []) E Y_J5_length_8abf5 k_J4_343 (ci := 1) rfl (c_J5_length_8abf5 (z_El E) e3) dJ4_length_8abf5_1 e1 rfl rfl (by decide) (by decide) (by decide) (by decide) (Nat.zero_le _)) rfl rfl rfl ?_
  obtain rfl := Option.some.inj e
  exact z_iret E M dJ4_length_8abf5_4 rfl rfl rfl rfl (by decide) (by decide)
theorem c_J4_length_8abf5 {l : Launch} (hl : l.stackTraces = false) {h : PH} {a0 : Nat} {r : Int32} (e : f_J4_length_8abf5 h a0 = some r) : CMet l yJ4_length_8abf5 (z_W yJ4_length_8abf5 cJ4_length_8abf5 1 (some .int)) rmJ4_length_8abf5 h [.ref a0] (.inr (some (.int r))) h :=
  z_met hl Y_J4_length_8abf5 (by decide +kernel) (Nat.le_of_ble_eq_true rfl) (fun X hX E T0 M => b_J4_length_8abf5 E T0 e M)
abbrev rmX9_writeNote : Room := { frames := 7, cells := 32, slots := 1990, locals := 148 }
noncomputable def f_X9_writeNote_L75 : Nat → PH → Nat → Int32 → Int32 → Option PH
  | 0, _, _, _, _ => none
  | fu + 1, h, v0, v1, v2 =>
    (rdR h v0 11 0).bind fun x1 =>
    (rdI h x1 9 0).bind fun x3 =>
    if x3 ≤ v2 then
      some h
    else
      (rdR h v0 11 0).bind fun x6 =>
      (rdR h x6 9 4).bind fun x8 =>
      (alI .int h x8 v1).bind fun x10 =>
      if (f_X9_has x10 v2) = false then
        f_X9_writeNote_L75 fu h v0 v1 (v2 + (1 : Int32))
      else
        (rdR h v0 11 7).bind fun x13 =>
        (gd h x13 1).bind fun _ =>
        (f_J4_append_cf468 h x13 (62 : Int32)).bind fun p16 =>
        (gd p16.2 p16.1 1).bind fun _ =>
        (f_J4_append_bf812 p16.2 p16.1 v2).bind fun p19 =>
        f_X9_writeNote_L75 fu p19.2 v0 v1 (v2 + (1 : Int32))
theorem b_X9_writeNote_L75 {X : PX} (E : z_E X cX9_writeNote RX9 "writeNote" 3 rmX9_writeNote (some .int)) (T0 : z_T0 X) {KB NB : Nat} (hKB : KB ≤ rmX9_writeNote.cells) (hNB : NB ≤ rmX9_writeNote.slots) {s : PH} : ∀ (fu k n : Nat) (hk : k + fu * 2 ≤ KB) (hn : n + fu * 128 ≤ NB) (h : PH) (v0 : Nat) (v1 : Int32) (v2 : Int32) (e : f_X9_writeNote_L75 fu h v0 v1 v2 = some s) (kk : WP X 3 KB NB 122 [(0, .ref v0)] [] s), WP X 3 k n 75 [(0, .ref v0), (1, .int v1), (2, .int v2)] [] h := by
  intro fu
  induction fu with
  | zero => intro k n hk hn h v0 v1 v2  e; exact absurd (show (none : Option PH) = some s from e) (by intro z; cases z)
  | succ fu ih =>
    intro k n hk hn h v0 v1 v2 e kk
    unfold f_X9_writeNote_L75 at e
    have hK : KB ≤ 32 := hKB
    have hN : NB ≤ 1990 := hNB
    refine z_iload_n E 2 dX9_writeNote_75 rfl ?_
    refine z_aload_n E 0 dX9_writeNote_76 rfl ?_
    obtain ⟨x1, e2, e⟩ := ob e
    refine z_getR E fl_X9_12 dX9_writeNote_77 e2 ?_
    obtain ⟨x3, e4, e⟩ := ob e
    refine z_getI E fl_X9_65 dX9_writeNote_80 e4 ?_
    rcases oi e with ⟨c5, e⟩ | ⟨c5, e⟩
    · refine z_icmp_geT (tgt := 122) E dX9_writeNote_83 rfl c5 ?_
      obtain rfl := Option.some.inj e
      exact z_sub [0] rfl (z_wide (by omega) (by omega) kk)
    · refine z_icmp_geF (tgt := 122) E dX9_writeNote_83 rfl c5 ?_
      refine z_aload_n E 0 dX9_writeNote_86 rfl ?_
      obtain ⟨x6, e7, e⟩ := ob e
      refine z_getR E fl_X9_12 dX9_writeNote_87 e7 ?_
      obtain ⟨x8, e9, e⟩ := ob e
      refine z_getR E fl_X9_88 dX9_writeNote_90 e9 ?_
      refine z_iload_n E 1 dX9_writeNote_93 rfl ?_
      obtain ⟨x10, e11, e⟩ := ob e
      refine z_iald E dX9_writeNote_94 e11 ?_
      refine z_iload_n E 2 dX9_writeNote_95 rfl ?_
      refine z_kR2 (st := []) (av := [.int x10, .int v2]) E (k + 0) (n + 0) (z_rS (st := []) (av := [.int x10, .int v2]) E Y_X9_has k_X9_91 (c_X9_has (l := z_l X) (h := h) (z_El E) x10 v2) dX9_writeNote_96 rfl rfl (by decide) (by decide) (zka (a := 0) hk hKB (by decide)) (zka (a := 0) hn hNB (by decide)) (Nat.zero_le _)) rfl rfl rfl ?_
      rcases oi e with ⟨c12, e⟩ | ⟨c12, e⟩
      · refine z_if_eqT (tgt := 116) E dX9_writeNote_99 rfl (zb_f c12) ?_
        refine z_iinc (v := (v2 + (1 : Int32))) (lv2 := [(2, .int (v2 + (1 : Int32))), (0, .ref v0), (1, .int v1)]) E 2 dX9_writeNote_116 rfl (congrArg (v2 + ·) ic_1) (by decide) rfl ?_
        refine z_goto (tgt := 75) E dX9_writeNote_119 rfl ?_
        exact z_sub [1, 2, 0] rfl (ih _ _ (by omega) (by omega) _ _ _ _ e kk)
      · refine z_if_eqF (tgt := 116) E dX9_writeNote_99 rfl (zb_nf c12) ?_
        refine z_aload_n E 0 dX9_writeNote_102 rfl ?_
        obtain ⟨x13, e14, e⟩ := ob e
        refine z_getR E fl_X9_57 dX9_writeNote_103 e14 ?_
        refine z_bipush E dX9_writeNote_106 bp_62 ?_
        obtain ⟨_, e15, e⟩ := ob e
        obtain ⟨p16, e17, e⟩ := ob e
        refine z_kR2 (st := []) (av := [.ref x13, .int (62 : Int32)]) E (k + 1) (n + 64) (z_rV (st := []) (av := [.int (62 : Int32)]) E Y_J4_append_cf468 k_X9_270 (ci := 1) rfl (c_J4_append_cf468 (z_El E) e17) dX9_writeNote_108 e15 rfl rfl (by decide) (by decide) (zka (a := 1) hk hKB (by decide)) (zka (a := 64) hn hNB (by decide)) (Nat.zero_le _)) rfl rfl rfl ?_
        refine z_iload_n E 2 dX9_writeNote_111 rfl ?_
        obtain ⟨_, e18, e⟩ := ob e
        obtain ⟨p19, e20, e⟩ := ob e
        refine z_kR2 (st := []) (av := [.ref p16.1, .int v2]) E (k + 2) (n + 128) (z_rV (st := []) (av := [.int v2]) E Y_J4_append_bf812 k_X9_267 (ci := 1) rfl (c_J4_append_bf812 (z_El E) e20) dX9_writeNote_112 e18 rfl rfl (by decide) (by decide) (zka (a := 2) hk hKB (by decide)) (zka (a := 128) hn hNB (by decide)) (Nat.zero_le _)) rfl rfl rfl ?_
        refine z_pop E dX9_writeNote_115 rfl ?_
        refine z_iinc (v := (v2 + (1 : Int32))) (lv2 := [(2, .int (v2 + (1 : Int32))), (0, .ref v0), (1, .int v1)]) E 2 dX9_writeNote_116 rfl (congrArg (v2 + ·) ic_1) (by decide) rfl ?_
        refine z_goto (tgt := 75) E dX9_writeNote_119 rfl ?_
        exact z_sub [1, 2, 0] rfl (ih _ _ (by omega) (by omega) _ _ _ _ e kk)
noncomputable def f_X9_writeNote (h : PH) (a0 : Nat) (a1 : Int32) : Option ((String ⊕ Int32) × PH) :=
  (gd h a0 11).bind fun _ =>
  (f_X9_needNote h a0 a1).bind fun p2 =>
  Sum.elim
    (fun E4 =>
    some ((Sum.inl E4), h))
    (fun y6 =>
    (rdR h a0 11 7).bind fun x7 =>
    (gd h x7 1).bind fun _ =>
    (f_J4_setLength_d00df h x7 (0 : Int32)).bind fun p10 =>
    (rdR p10 a0 11 7).bind fun x12 =>
    (gd p10 x12 1).bind fun _ =>
    (f_J4_append_bf812 p10 x12 a1).bind fun p15 =>
    (gd p15.2 p15.1 1).bind fun _ =>
    (f_J4_append_cf468 p15.2 p15.1 (112 : Int32)).bind fun p18 =>
    (rdR p18.2 a0 11 0).bind fun x20 =>
    (rdR p18.2 x20 9 1).bind fun x22 =>
    (alI .int p18.2 x22 a1).bind fun x24 =>
    (gd p18.2 p18.1 1).bind fun _ =>
    (f_J4_append_bf812 p18.2 p18.1 x24).bind fun p27 =>
    (rdR p27.2 a0 11 7).bind fun x29 =>
    (gd p27.2 x29 1).bind fun _ =>
    (f_J4_append_cf468 p27.2 x29 (119 : Int32)).bind fun p32 =>
    (rdR p32.2 a0 11 0).bind fun x34 =>
    (rdR p32.2 x34 9 2).bind fun x36 =>
    (alI .int p32.2 x36 a1).bind fun x38 =>
    (gd p32.2 p32.1 1).bind fun _ =>
    (f_J4_append_bf812 p32.2 p32.1 x38).bind fun p41 =>
    (rdR p41.2 a0 11 0).bind fun x43 =>
    (rdR p41.2 x43 9 3).bind fun x45 =>
    (alI .char p41.2 x45 a1).bind fun x47 =>
    (gd p41.2 p41.1 1).bind fun _ =>
    (f_J4_append_cf468 p41.2 p41.1 x47).bind fun p50 =>
    (f_X9_writeNote_L75 12 p50.2 a0 a1 (0 : Int32)).bind fun s52 =>
    (rdR s52 a0 11 7).bind fun x54 =>
    (gd s52 x54 1).bind fun _ =>
    (f_J4_length_8abf5 s52 x54).bind fun p57 =>
    some ((Sum.inr p57), s52)) p2
theorem b_X9_writeNote {X : PX} (E : z_E X cX9_writeNote RX9 "writeNote" 3 rmX9_writeNote (some .int)) (T0 : z_T0 X) {h : PH} {a0 : Nat} {a1 : Int32} {r : ((String ⊕ Int32) × PH)} (e : f_X9_writeNote h a0 a1 = some r) (M : z_M X rmX9_writeNote.cells rmX9_writeNote.slots (zoI r.1) r.2) : WP X 3 0 0 0 [(0, .ref a0), (1, .int a1)] [] h := by
  unfold f_X9_writeNote at e
  refine z_aload_n E 0 dX9_writeNote_0 rfl ?_
  refine z_iload_n E 1 dX9_writeNote_1 rfl ?_
  obtain ⟨_, e1, e⟩ := ob e
  obtain ⟨p2, e3, e⟩ := ob e
  rcases os e with ⟨E4, c5, e⟩ | ⟨y6, c5, e⟩
  · obtain rfl := Option.some.inj e
    refine z_kX2 (st := []) (av := [.ref a0, .int a1]) E 1 6 (z_rV (st := []) (av := [.int a1]) E Y_X9_needNote k_X9_69 (ci := 11) rfl (zc_o (c_X9_needNote (z_El E) e3) (by rw [c5]; rfl)) dX9_writeNote_2 e1 rfl rfl (by decide) (by decide) (by decide) (by decide) (Nat.zero_le _)) rfl rfl rfl ?_
    exact z_outX E T0 M rfl rfl (by decide) (by decide)
  · refine z_kV2 (st := []) (av := [.ref a0, .int a1]) E 1 6 (z_rV (st := []) (av := [.int a1]) E Y_X9_needNote k_X9_69 (ci := 11) rfl (zc_o (c_X9_needNote (z_El E) e3) (by rw [c5]; rfl)) dX9_writeNote_2 e1 rfl rfl (by decide) (by decide) (by decide) (by decide) (Nat.zero_le _)) rfl rfl rfl ?_
    refine z_aload_n E 0 dX9_writeNote_5 rfl ?_
    obtain ⟨x7, e8, e⟩ := ob e
    refine z_getR E fl_X9_57 dX9_writeNote_6 e8 ?_
    refine z_iconst E dX9_writeNote_9 ic_0 ?_
    obtain ⟨_, e9, e⟩ := ob e
    obtain ⟨p10, e11, e⟩ := ob e
    refine z_kV2 (st := []) (av := [.ref x7, .int (0 : Int32)]) E 2 70 (z_rV (st := []) (av := [.int (0 : Int32)]) E Y_J4_setLength_d00df k_X9_264 (ci := 1) rfl (c_J4_setLength_d00df (z_El E) e11) dX9_writeNote_10 e9 rfl rfl (by decide) (by decide) (by decide) (by decide) (Nat.zero_le _)) rfl rfl rfl ?_
    refine z_aload_n E 0 dX9_writeNote_13 rfl ?_
    obtain ⟨x12, e13, e⟩ := ob e
    refine z_getR E fl_X9_57 dX9_writeNote_14 e13 ?_
    refine z_iload_n E 1 dX9_writeNote_17 rfl ?_
    obtain ⟨_, e14, e⟩ := ob e
    obtain ⟨p15, e16, e⟩ := ob e
    refine z_kR2 (st := []) (av := [.ref x12, .int a1]) E 3 134 (z_rV (st := []) (av := [.int a1]) E Y_J4_append_bf812 k_X9_267 (ci := 1) rfl (c_J4_append_bf812 (z_El E) e16) dX9_writeNote_18 e14 rfl rfl (by decide) (by decide) (by decide) (by decide) (Nat.zero_le _)) rfl rfl rfl ?_
    refine z_bipush E dX9_writeNote_21 bp_112 ?_
    obtain ⟨_, e17, e⟩ := ob e
    obtain ⟨p18, e19, e⟩ := ob e
    refine z_kR2 (st := []) (av := [.ref p15.1, .int (112 : Int32)]) E 4 198 (z_rV (st := []) (av := [.int (112 : Int32)]) E Y_J4_append_cf468 k_X9_270 (ci := 1) rfl (c_J4_append_cf468 (z_El E) e19) dX9_writeNote_23 e17 rfl rfl (by decide) (by decide) (by decide) (by decide) (Nat.zero_le _)) rfl rfl rfl ?_
    refine z_aload_n E 0 dX9_writeNote_26 rfl ?_
    obtain ⟨x20, e21, e⟩ := ob e
    refine z_getR E fl_X9_12 dX9_writeNote_27 e21 ?_
    obtain ⟨x22, e23, e⟩ := ob e
    refine z_getR E fl_X9_73 dX9_writeNote_30 e23 ?_
    refine z_iload_n E 1 dX9_writeNote_33 rfl ?_
    obtain ⟨x24, e25, e⟩ := ob e
    refine z_iald E dX9_writeNote_34 e25 ?_
    obtain ⟨_, e26, e⟩ := ob e
    obtain ⟨p27, e28, e⟩ := ob e
    refine z_kR2 (st := []) (av := [.ref p18.1, .int x24]) E 5 262 (z_rV (st := []) (av := [.int x24]) E Y_J4_append_bf812 k_X9_267 (ci := 1) rfl (c_J4_append_bf812 (z_El E) e28) dX9_writeNote_35 e26 rfl rfl (by decide) (by decide) (by decide) (by decide) (Nat.zero_le _)) rfl rfl rfl ?_
    refine z_pop E dX9_writeNote_38 rfl ?_
    refine z_aload_n E 0 dX9_writeNote_39 rfl ?_
    obtain ⟨x29, e30, e⟩ := ob e
    refine z_getR E fl_X9_57 dX9_writeNote_40 e30 ?_
    refine z_bipush E dX9_writeNote_43 bp_119 ?_
    obtain ⟨_, e31, e⟩ := ob e
    obtain ⟨p32, e33, e⟩ := ob e
    refine z_kR2 (st := []) (av := [.ref x29, .int (119 : Int32)]) E 6 326 (z_rV (st := []) (av := [.int (119 : Int32)]) E Y_J4_append_cf468 k_X9_270 (ci := 1) rfl (c_J4_append_cf468 (z_El E) e33) dX9_writeNote_45 e31 rfl rfl (by decide) (by decide) (by decide) (by decide) (Nat.zero_le _)) rfl rfl rfl ?_
    refine z_aload_n E 0 dX9_writeNote_48 rfl ?_
    obtain ⟨x34, e35, e⟩ := ob e
    refine z_getR E fl_X9_12 dX9_writeNote_49 e35 ?_
    obtain ⟨x36, e37, e⟩ := ob e
    refine z_getR E fl_X9_77 dX9_writeNote_52 e37 ?_
    refine z_iload_n E 1 dX9_writeNote_55 rfl ?_
    obtain ⟨x38, e39, e⟩ := ob e
    refine z_iald E dX9_writeNote_56 e39 ?_
    obtain ⟨_, e40, e⟩ := ob e
    obtain ⟨p41, e42, e⟩ := ob e
    refine z_kR2 (st := []) (av := [.ref p32.1, .int x38]) E 7 390 (z_rV (st := []) (av := [.int x38]) E Y_J4_append_bf812 k_X9_267 (ci := 1) rfl (c_J4_append_bf812 (z_El E) e42) dX9_writeNote_57 e40 rfl rfl (by decide) (by decide) (by decide) (by decide) (Nat.zero_le _)) rfl rfl rfl ?_
    refine z_aload_n E 0 dX9_writeNote_60 rfl ?_
    obtain ⟨x43, e44, e⟩ := ob e
    refine z_getR E fl_X9_12 dX9_writeNote_61 e44 ?_
    obtain ⟨x45, e46, e⟩ := ob e
    refine z_getR E fl_X9_80 dX9_writeNote_64 e46 ?_
    refine z_iload_n E 1 dX9_writeNote_67 rfl ?_
    obtain ⟨x47, e48, e⟩ := ob e
    refine z_cald E dX9_writeNote_68 e48 ?_
    obtain ⟨_, e49, e⟩ := ob e
    obtain ⟨p50, e51, e⟩ := ob e
    refine z_kR2 (st := []) (av := [.ref p41.1, .int x47]) E 8 454 (z_rV (st := []) (av := [.int x47]) E Y_J4_append_cf468 k_X9_270 (ci := 1) rfl (c_J4_append_cf468 (z_El E) e51) dX9_writeNote_69 e49 rfl rfl (by decide) (by decide) (by decide) (by decide) (Nat.zero_le _)) rfl rfl rfl ?_
    refine z_pop E dX9_writeNote_72 rfl ?_
    refine z_iconst E dX9_writeNote_73 ic_0 ?_
    refine z_istore_n (lv2 := [(2, .int (0 : Int32)), (0, .ref a0), (1, .int a1)]) E dX9_writeNote_74 (by decide) rfl ?_
    obtain ⟨s52, e53, e⟩ := ob e
    refine z_sub [1, 2, 0] rfl (b_X9_writeNote_L75 E T0 (KB := 32) (NB := 1990) (by decide) (by decide) 12 8 454 (by decide) (by decide) _ _ _ _ e53 ?_)
    refine z_aload_n E 0 dX9_writeNote_122 rfl ?_
    obtain ⟨x54, e55, e⟩ := ob e
    refine z_getR E fl_X9_57 dX9_writeNote_123 e55 ?_
    obtain ⟨_, e56, e⟩ := ob e
    obtain ⟨p57, e58, e⟩ := ob e
    refine z_kR2 (st := []) (av := [.ref x54]) E 32 1990 (z_rV (st := []) (av := []) E Y_J4_length_8abf5 k_X9_273 (ci := 1) rfl (c_J4_length_8abf5 (z_El E) e58) dX9_writeNote_126 e56 rfl rfl (by decide) (by decide) (by decide) (by decide) (Nat.zero_le _)) rfl rfl rfl ?_
    obtain rfl := Option.some.inj e
    exact z_iret E M dX9_writeNote_129 rfl rfl rfl rfl (by decide) (by decide)
theorem c_X9_writeNote {l : Launch} (hl : l.stackTraces = false) {h : PH} {a0 : Nat} {a1 : Int32} {r : ((String ⊕ Int32) × PH)} (e : f_X9_writeNote h a0 a1 = some r) : CMet l yX9_writeNote (z_W yX9_writeNote cX9_writeNote 3 (some .int)) rmX9_writeNote h [.ref a0, .int a1] (zoI r.1) r.2 :=
  z_met hl Y_X9_writeNote (by decide +kernel) (Nat.le_of_ble_eq_true rfl) (fun X hX E T0 M => b_X9_writeNote E T0 e M)
abbrev rmL_writeNote : Room := { frames := 8, cells := 32, slots := 1990, locals := 170 }
noncomputable def f_L_writeNote (h : PH) (a0 : Nat) (a1 : Int32) (a2 : Nat) : Option (Int32 × PH) :=
  (gd h a0 11).bind fun _ =>
  (f_X9_writeNote h a0 a1).bind fun p2 =>
  Sum.elim
    (fun E4 =>
    if E4 = "java/util/NoSuchElementException" then
      some ((1 : Int32), p2.2)
    else none)
    (fun y6 =>
    (asL p2.2 a2 (0 : Int32) y6.toInt64).bind fun h8 =>
    some ((0 : Int32), h8)) p2.1
theorem b_L_writeNote {X : PX} (E : z_E X cL_writeNote RL "writeNote" 4 rmL_writeNote (some .int)) (TT : z_TT X [(0, 9, 12, 20)]) {h : PH} {a0 : Nat} {a1 : Int32} {a2 : Nat} {r : (Int32 × PH)} (e : f_L_writeNote h a0 a1 a2 = some r) (M : z_M X rmL_writeNote.cells rmL_writeNote.slots (.inr (some (.int r.1))) r.2) : WP X 4 0 0 0 [(0, .ref a0), (1, .int a1), (2, .ref a2)] [] h := by
  unfold f_L_writeNote at e
  refine z_aload_n E 2 dL_writeNote_0 rfl ?_
  refine z_iconst E dL_writeNote_1 ic_0 ?_
  refine z_aload_n E 0 dL_writeNote_2 rfl ?_
  refine z_iload_n E 1 dL_writeNote_3 rfl ?_
  obtain ⟨_, e1, e⟩ := ob e
  obtain ⟨p2, e3, e⟩ := ob e
  rcases os e with ⟨E4, c5, e⟩ | ⟨y6, c5, e⟩
  · rcases oi e with ⟨c7, e⟩ | ⟨c7, e⟩
    · subst c7
      refine z_kX2 (st := [.int (0 : Int32), .ref a2]) (av := [.ref a0, .int a1]) E 32 1990 (z_rV (st := [.int (0 : Int32), .ref a2]) (av := [.int a1]) E Y_X9_writeNote k_L_130 (ci := 11) rfl (zc_o (c_X9_writeNote (z_El E) e3) (by rw [c5]; rfl)) dL_writeNote_4 e1 rfl rfl (by decide) (by decide) (by decide) (by decide) (Nat.le_of_ble_eq_true rfl)) rfl rfl rfl ?_
      refine z_catch (lv2 := [(0, .ref a0), (1, .int a1), (2, .ref a2)]) E TT 0 (q := (0, 9, 12, 20)) rfl rfl (by decide) cl_L_20 kb_NoSuchElementException (fun z hz => nomatch hz) (Or.inl ⟨_, dL_writeNote_12, rfl, rfl⟩) (by decide) rfl ?_
      refine z_iconst E dL_writeNote_13 ic_1 ?_
      obtain rfl := Option.some.inj e
      exact z_iret E M dL_writeNote_14 rfl rfl rfl rfl (by decide) (by decide)
    cases e
  · refine z_kR2 (st := [.int (0 : Int32), .ref a2]) (av := [.ref a0, .int a1]) E 32 1990 (z_rV (st := [.int (0 : Int32), .ref a2]) (av := [.int a1]) E Y_X9_writeNote k_L_130 (ci := 11) rfl (zc_o (c_X9_writeNote (z_El E) e3) (by rw [c5]; rfl)) dL_writeNote_4 e1 rfl rfl (by decide) (by decide) (by decide) (by decide) (Nat.le_of_ble_eq_true rfl)) rfl rfl rfl ?_
    refine z_i2l (v := y6.toInt64) E dL_writeNote_7 rfl ?_
    obtain ⟨h8, e9, e⟩ := ob e
    refine z_last E dL_writeNote_8 e9 ?_
    refine z_goto (tgt := 15) E dL_writeNote_9 rfl ?_
    refine z_iconst E dL_writeNote_15 ic_0 ?_
    obtain rfl := Option.some.inj e
    exact z_iret E M dL_writeNote_16 rfl rfl rfl rfl (by decide) (by decide)
theorem c_L_writeNote {l : Launch} (hl : l.stackTraces = false) {h : PH} {a0 : Nat} {a1 : Int32} {a2 : Nat} {r : (Int32 × PH)} (e : f_L_writeNote h a0 a1 a2 = some r) : CMet l yL_writeNote (z_WH yL_writeNote cL_writeNote 4 (some .int) [(0, 9, 12, 20)]) rmL_writeNote h [.ref a0, .int a1, .ref a2] (.inr (some (.int r.1))) r.2 :=
  z_metH hl Y_L_writeNote (by decide +kernel) (Nat.le_of_ble_eq_true rfl) (fun X hX E T0 M => b_L_writeNote E T0 e M)
abbrev rmX10_writes : Room := { frames := 0, cells := 0, slots := 0, locals := 0 }
noncomputable def f_X10_writes (h : PH) (a0 : Nat) (a1 : Int32) : Option PH :=
  (rdR h a0 12 15).bind fun x1 =>
  (rdI h a0 12 16).bind fun x3 =>
  (asI .char h x1 x3 (zi2c a1)).bind fun h5 =>
  (rdI h5 a0 12 16).bind fun x7 =>
  (wr h5 a0 12 16 (.int (x7 + (1 : Int32)))).bind fun h9 =>
  some h9
theorem b_X10_writes {X : PX} (E : z_E X cX10_writes RX10 "writes" 2 rmX10_writes none) (T0 : z_T0 X) {h : PH} {a0 : Nat} {a1 : Int32} {r : PH} (e : f_X10_writes h a0 a1 = some r) (M : z_M X rmX10_writes.cells rmX10_writes.slots (.inr none) r) : WP X 2 0 0 0 [(0, .ref a0), (1, .int a1)] [] h := by
  unfold f_X10_writes at e
  refine z_aload_n E 0 dX10_writes_0 rfl ?_
  obtain ⟨x1, e2, e⟩ := ob e
  refine z_getR E fl_X10_29 dX10_writes_1 e2 ?_
  refine z_aload_n E 0 dX10_writes_4 rfl ?_
  obtain ⟨x3, e4, e⟩ := ob e
  refine z_getI E fl_X10_284 dX10_writes_5 e4 ?_
  refine z_iload_n E 1 dX10_writes_8 rfl ?_
  refine z_i2c (v := (zi2c a1)) E dX10_writes_9 rfl ?_
  obtain ⟨h5, e6, e⟩ := ob e
  refine z_cast E dX10_writes_10 e6 ?_
  refine z_aload_n E 0 dX10_writes_11 rfl ?_
  refine z_dup E dX10_writes_12 rfl ?_
  obtain ⟨x7, e8, e⟩ := ob e
  refine z_getI E fl_X10_284 dX10_writes_13 e8 ?_
  refine z_iconst E dX10_writes_16 ic_1 ?_
  refine z_iadd E dX10_writes_17 ?_
  obtain ⟨h9, e10, e⟩ := ob e
  refine z_putI E fp_X10_284 (Or.inl rfl) dX10_writes_18 e10 ?_
  obtain rfl := Option.some.inj e
  exact z_vret E M dX10_writes_21 rfl rfl rfl (by decide) (by decide)
theorem c_X10_writes {l : Launch} (hl : l.stackTraces = false) {h : PH} {a0 : Nat} {a1 : Int32} {r : PH} (e : f_X10_writes h a0 a1 = some r) : CMet l yX10_writes (z_W yX10_writes cX10_writes 2 none) rmX10_writes h [.ref a0, .int a1] (.inr none) r :=
  z_met hl Y_X10_writes (by decide +kernel) (Nat.le_of_ble_eq_true rfl) (fun X hX E T0 M => b_X10_writes E T0 e M)
def rmX10_writesNumber (d : Nat) : Room := { frames := 1 + d, cells := 0, slots := 0, locals := 21 + d * 21 }
theorem rl_X10_writesNumber (d : Nat) : 8 + (2 + 11) + (rmX10_writesNumber d).locals ≤ (rmX10_writesNumber (d + 1)).locals := by
  show 8 + (2 + 11) + (21 + d * 21) ≤ 21 + (d + 1) * 21
  omega
noncomputable def f_X10_writesNumber_B (rc : PH → Nat → Int32 → Option PH) (h : PH) (a0 : Nat) (a1 : Int32) : Option PH :=
  if a1 ≤ (9 : Int32) then
    (gd h a0 12).bind fun _ =>
    (f_X10_writes h a0 ((48 : Int32) + (zrem a1 (10 : Int32)))).bind fun p3 =>
    some p3
  else
    (gd h a0 12).bind fun _ =>
    (rc h a0 (a1 / (10 : Int32))).bind fun p6 =>
    (gd p6 a0 12).bind fun _ =>
    (f_X10_writes p6 a0 ((48 : Int32) + (zrem a1 (10 : Int32)))).bind fun p9 =>
    some p9
noncomputable def f_X10_writesNumber : Nat → PH → Nat → Int32 → Option PH
  | 0, _, _, _ => none
  | d + 1, h, a0, a1 => f_X10_writesNumber_B (f_X10_writesNumber d) h a0 a1
theorem b_X10_writesNumber {X : PX} {d : Nat} (E : z_E X cX10_writesNumber RX10 "writesNumber" 2 (rmX10_writesNumber (d + 1)) none) (T0 : z_T0 X) {rc : PH → Nat → Int32 → Option PH} (HR : ∀ (h : PH) (a0 : Nat) (a1 : Int32) (r : PH), rc h a0 a1 = some r → CMet (z_l X) yX10_writesNumber (z_W yX10_writesNumber cX10_writesNumber 2 none) (rmX10_writesNumber d) h [.ref a0, .int a1] (.inr none) r) {h : PH} {a0 : Nat} {a1 : Int32} {r : PH} (e : f_X10_writesNumber_B rc h a0 a1 = some r) (M : z_M X (rmX10_writesNumber (d + 1)).cells (rmX10_writesNumber (d + 1)).slots (.inr none) r) : WP X 2 0 0 0 [(0, .ref a0), (1, .int a1)] [] h := by
  have hk : 0 + 0 ≤ (rmX10_writesNumber (d + 1)).cells := Nat.zero_le _
  have hn : 0 + 0 ≤ (rmX10_writesNumber (d + 1)).slots := Nat.zero_le _
  unfold f_X10_writesNumber_B at e
  refine z_iload_n E 1 dX10_writesNumber_0 rfl ?_
  refine z_bipush E dX10_writesNumber_1 bp_9 ?_
  rcases oi e with ⟨c1, e⟩ | ⟨c1, e⟩
  · refine z_icmp_leT (tgt := 14) E dX10_writesNumber_3 rfl c1 ?_
    refine z_aload_n E 0 dX10_writesNumber_14 rfl ?_
    refine z_bipush E dX10_writesNumber_15 bp_48 ?_
    refine z_iload_n E 1 dX10_writesNumber_17 rfl ?_
    refine z_bipush E dX10_writesNumber_18 bp_10 ?_
    refine z_irem E dX10_writesNumber_20 (by decide) ?_
    refine z_iadd E dX10_writesNumber_21 ?_
    obtain ⟨_, e2, e⟩ := ob e
    obtain ⟨p3, e4, e⟩ := ob e
    refine z_kV2 (st := []) (av := [.ref a0, .int ((48 : Int32) + (zrem a1 (10 : Int32)))]) E 0 0 (z_rV (st := []) (av := [.int ((48 : Int32) + (zrem a1 (10 : Int32)))]) E Y_X10_writes k_X10_291 (ci := 12) rfl (c_X10_writes (z_El E) e4) dX10_writesNumber_22 e2 rfl rfl (Nat.le_trans (m := 1) (by decide) (Nat.le_add_right _ _)) (Nat.le_trans (m := 21) (by decide) (Nat.le_add_right _ _)) hk hn (Nat.zero_le _)) rfl rfl rfl ?_
    obtain rfl := Option.some.inj e
    exact z_vret E M dX10_writesNumber_25 rfl rfl rfl (zk (k := 0) (a := 0) hk (by decide)) (zk (k := 0) (a := 0) hn (by decide))
  · refine z_icmp_leF (tgt := 14) E dX10_writesNumber_3 rfl c1 ?_
    refine z_aload_n E 0 dX10_writesNumber_6 rfl ?_
    refine z_iload_n E 1 dX10_writesNumber_7 rfl ?_
    refine z_bipush E dX10_writesNumber_8 bp_10 ?_
    refine z_idiv E dX10_writesNumber_10 (by decide) ?_
    obtain ⟨_, e5, e⟩ := ob e
    obtain ⟨p6, e7, e⟩ := ob e
    refine z_kV2 (st := []) (av := [.ref a0, .int (a1 / (10 : Int32))]) E 0 0 (z_rV (st := []) (av := [.int (a1 / (10 : Int32))]) E Y_X10_writesNumber k_X10_287 (ci := 12) rfl (HR _ _ _ _ e7) dX10_writesNumber_11 e5 rfl rfl (Nat.le_refl _) (rl_X10_writesNumber d) hk hn (Nat.zero_le _)) rfl rfl rfl ?_
    refine z_aload_n E 0 dX10_writesNumber_14 rfl ?_
    refine z_bipush E dX10_writesNumber_15 bp_48 ?_
    refine z_iload_n E 1 dX10_writesNumber_17 rfl ?_
    refine z_bipush E dX10_writesNumber_18 bp_10 ?_
    refine z_irem E dX10_writesNumber_20 (by decide) ?_
    refine z_iadd E dX10_writesNumber_21 ?_
    obtain ⟨_, e8, e⟩ := ob e
    obtain ⟨p9, e10, e⟩ := ob e
    refine z_kV2 (st := []) (av := [.ref a0, .int ((48 : Int32) + (zrem a1 (10 : Int32)))]) E 0 0 (z_rV (st := []) (av := [.int ((48 : Int32) + (zrem a1 (10 : Int32)))]) E Y_X10_writes k_X10_291 (ci := 12) rfl (c_X10_writes (z_El E) e10) dX10_writesNumber_22 e8 rfl rfl (Nat.le_trans (m := 1) (by decide) (Nat.le_add_right _ _)) (Nat.le_trans (m := 21) (by decide) (Nat.le_add_right _ _)) hk hn (Nat.zero_le _)) rfl rfl rfl ?_
    obtain rfl := Option.some.inj e
    exact z_vret E M dX10_writesNumber_25 rfl rfl rfl (zk (k := 0) (a := 0) hk (by decide)) (zk (k := 0) (a := 0) hn (by decide))
theorem c_X10_writesNumber {l : Launch} (hl : l.stackTraces = false) : ∀ {d : Nat} {h : PH} {a0 : Nat} {a1 : Int32} {r : PH} (e : f_X10_writesNumber d h a0 a1 = some r), CMet l yX10_writesNumber (z_W yX10_writesNumber cX10_writesNumber 2 none) (rmX10_writesNumber d) h [.ref a0, .int a1] (.inr none) r := by
  intro d
  induction d with
  | zero => intro h a0 a1 r e; exact absurd (show (none : Option _) = some r from e) (by intro z; cases z)
  | succ d ih =>
    intro h a0 a1 r e
    exact z_met hl Y_X10_writesNumber (by decide +kernel) (Nat.le_of_ble_eq_true rfl) (fun X hX E T0 M => b_X10_writesNumber E T0 (rc := f_X10_writesNumber d) (by intro h a0 a1 r e; rw [hX]; exact ih e) (show f_X10_writesNumber_B (f_X10_writesNumber d) h a0 a1 = some r from e) M)
abbrev rmX10_writesBehind : Room := { frames := 14, cells := 0, slots := 0, locals := 294 }
noncomputable def f_X10_writesBehind (h : PH) (a0 : Nat) (a1 : Int32) (a2 : Int32) : Option PH :=
  (gd h a0 12).bind fun _ =>
  (f_X10_writes h a0 a1).bind fun p2 =>
  (gd p2 a0 12).bind fun _ =>
  (f_X10_writesNumber 12 p2 a0 a2).bind fun p5 =>
  some p5
theorem b_X10_writesBehind {X : PX} (E : z_E X cX10_writesBehind RX10 "writesBehind" 3 rmX10_writesBehind none) (T0 : z_T0 X) {h : PH} {a0 : Nat} {a1 : Int32} {a2 : Int32} {r : PH} (e : f_X10_writesBehind h a0 a1 a2 = some r) (M : z_M X rmX10_writesBehind.cells rmX10_writesBehind.slots (.inr none) r) : WP X 3 0 0 0 [(0, .ref a0), (1, .int a1), (2, .int a2)] [] h := by
  unfold f_X10_writesBehind at e
  refine z_aload_n E 0 dX10_writesBehind_0 rfl ?_
  refine z_iload_n E 1 dX10_writesBehind_1 rfl ?_
  obtain ⟨_, e1, e⟩ := ob e
  obtain ⟨p2, e3, e⟩ := ob e
  refine z_kV2 (st := []) (av := [.ref a0, .int a1]) E 0 0 (z_rV (st := []) (av := [.int a1]) E Y_X10_writes k_X10_291 (ci := 12) rfl (c_X10_writes (z_El E) e3) dX10_writesBehind_2 e1 rfl rfl (by decide) (by decide) (by decide) (by decide) (Nat.zero_le _)) rfl rfl rfl ?_
  refine z_aload_n E 0 dX10_writesBehind_5 rfl ?_
  refine z_iload_n E 2 dX10_writesBehind_6 rfl ?_
  obtain ⟨_, e4, e⟩ := ob e
  obtain ⟨p5, e6, e⟩ := ob e
  refine z_kV2 (st := []) (av := [.ref a0, .int a2]) E 0 0 (z_rV (st := []) (av := [.int a2]) E Y_X10_writesNumber k_X10_287 (ci := 12) rfl (c_X10_writesNumber (z_El E) e6) dX10_writesBehind_7 e4 rfl rfl (by decide) (by decide) (by decide) (by decide) (Nat.zero_le _)) rfl rfl rfl ?_
  obtain rfl := Option.some.inj e
  exact z_vret E M dX10_writesBehind_10 rfl rfl rfl (by decide) (by decide)
theorem c_X10_writesBehind {l : Launch} (hl : l.stackTraces = false) {h : PH} {a0 : Nat} {a1 : Int32} {a2 : Int32} {r : PH} (e : f_X10_writesBehind h a0 a1 a2 = some r) : CMet l yX10_writesBehind (z_W yX10_writesBehind cX10_writesBehind 3 none) rmX10_writesBehind h [.ref a0, .int a1, .int a2] (.inr none) r :=
  z_met hl Y_X10_writesBehind (by decide +kernel) (Nat.le_of_ble_eq_true rfl) (fun X hX E T0 M => b_X10_writesBehind E T0 e M)
