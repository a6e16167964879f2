abbrev rmX10_rounds : Room := { frames := 3, cells := 0, slots := 0, locals := 69 }
noncomputable def f_X10_rounds_L4 : Nat → PH → Nat → Int32 → Int32 → Option Int32
  | 0, _, _, _, _ => none
  | fu + 1, h, v0, v1, v2 =>
    (rdR h v0 12 0).bind fun x1 =>
    (alI .int h x1 (0 : Int32)).bind fun x3 =>
    if x3 ≤ v2 then
      some v1
    else
      (gd h v0 12).bind fun _ =>
      (f_X10_circle h v0 v2).bind fun p7 =>
      (f_X10_bits p7).bind fun p9 =>
      if p9 ≤ (1 : Int32) then
        f_X10_rounds_L4 fu h v0 (v1 + (0 : Int32)) (v2 + (1 : Int32))
      else
        (gd h v0 12).bind fun _ =>
        (f_X10_circle h v0 v2).bind fun p13 =>
        if ¬ (p13 &&& ((zshl (1 : Int32) v2) - (1 : Int32))) = 0 then
          f_X10_rounds_L4 fu h v0 (v1 + (0 : Int32)) (v2 + (1 : Int32))
        else
          f_X10_rounds_L4 fu h v0 (v1 + (1 : Int32)) (v2 + (1 : Int32))
theorem b_X10_rounds_L4 {X : PX} (E : z_E X cX10_rounds RX10 "rounds" 3 rmX10_rounds (some .int)) (T0 : z_T0 X) {k n : Nat} (hk : k + 0 ≤ rmX10_rounds.cells) (hn : n + 0 ≤ rmX10_rounds.slots) {s : Int32} : ∀ (fu : Nat) (h : PH) (v0 : Nat) (v1 : Int32) (v2 : Int32) (e : f_X10_rounds_L4 fu h v0 v1 v2 = some s) (kk : WP X 3 k n 54 [(1, .int s)] [] h), WP X 3 k n 4 [(0, .ref v0), (1, .int v1), (2, .int v2)] [] h := by
  intro fu
  induction fu with
  | zero => intro h v0 v1 v2 e; exact absurd (show (none : Option Int32) = some s from e) (by intro z; cases z)
  | succ fu ih =>
    intro h v0 v1 v2 e kk
    unfold f_X10_rounds_L4 at e
    refine z_iload_n E 2 dX10_rounds_4 rfl ?_
    refine z_aload_n E 0 dX10_rounds_5 rfl ?_
    obtain ⟨x1, e2, e⟩ := ob e
    refine z_getR E fl_X10_7 dX10_rounds_6 e2 ?_
    refine z_iconst E dX10_rounds_9 ic_0 ?_
    obtain ⟨x3, e4, e⟩ := ob e
    refine z_iald E dX10_rounds_10 e4 ?_
    rcases oi e with ⟨c5, e⟩ | ⟨c5, e⟩
    · refine z_icmp_geT (tgt := 54) E dX10_rounds_11 rfl c5 ?_
      obtain rfl := Option.some.inj e
      exact z_sub [1] rfl kk
    · refine z_icmp_geF (tgt := 54) E dX10_rounds_11 rfl c5 ?_
      refine z_iload_n E 1 dX10_rounds_14 rfl ?_
      refine z_aload_n E 0 dX10_rounds_15 rfl ?_
      refine z_iload_n E 2 dX10_rounds_16 rfl ?_
      obtain ⟨_, e6, e⟩ := ob e
      obtain ⟨p7, e8, e⟩ := ob e
      refine z_kR2 (st := [.int v1]) (av := [.ref v0, .int v2]) E k n (z_rV (st := [.int v1]) (av := [.int v2]) E Y_X10_circle k_X10_120 (ci := 12) rfl (c_X10_circle (z_El E) e8) dX10_rounds_17 e6 rfl rfl (by decide) (by decide) (zk (k := k) (a := 0) hk (by decide)) (zk (k := n) (a := 0) hn (by decide)) (Nat.le_of_ble_eq_true rfl)) rfl rfl rfl ?_
      obtain ⟨p9, e10, e⟩ := ob e
      refine z_kR2 (st := [.int v1]) (av := [.int p7]) E k n (z_rS (st := [.int v1]) (av := [.int p7]) E Y_X10_bits k_X10_99 (c_X10_bits (z_El E) e10) dX10_rounds_20 rfl rfl (by decide) (by decide) (zk (k := k) (a := 0) hk (by decide)) (zk (k := n) (a := 0) hn (by decide)) (Nat.le_of_ble_eq_true rfl)) rfl rfl rfl ?_
      refine z_iconst E dX10_rounds_23 ic_1 ?_
      rcases oi e with ⟨c11, e⟩ | ⟨c11, e⟩
      · refine z_icmp_leT (tgt := 45) E dX10_rounds_24 rfl c11 ?_
        refine z_iconst E dX10_rounds_45 ic_0 ?_
        refine z_iadd E dX10_rounds_46 ?_
        refine z_istore_n (lv2 := [(1, .int (v1 + (0 : Int32))), (0, .ref v0), (2, .int v2)]) E dX10_rounds_47 (by decide) rfl ?_
        refine z_iinc (v := (v2 + (1 : Int32))) (lv2 := [(2, .int (v2 + (1 : Int32))), (1, .int (v1 + (0 : Int32))), (0, .ref v0)]) E 2 dX10_rounds_48 rfl (congrArg (v2 + ·) ic_1) (by decide) rfl ?_
        refine z_goto (tgt := 4) E dX10_rounds_51 rfl ?_
        exact z_sub [2, 1, 0] rfl (ih _ _ _ _ e kk)
      · refine z_icmp_leF (tgt := 45) E dX10_rounds_24 rfl c11 ?_
        refine z_aload_n E 0 dX10_rounds_27 rfl ?_
        refine z_iload_n E 2 dX10_rounds_28 rfl ?_
        obtain ⟨_, e12, e⟩ := ob e
        obtain ⟨p13, e14, e⟩ := ob e
        refine z_kR2 (st := [.int v1]) (av := [.ref v0, .int v2]) E k n (z_rV (st := [.int v1]) (av := [.int v2]) E Y_X10_circle k_X10_120 (ci := 12) rfl (c_X10_circle (z_El E) e14) dX10_rounds_29 e12 rfl rfl (by decide) (by decide) (zk (k := k) (a := 0) hk (by decide)) (zk (k := n) (a := 0) hn (by decide)) (Nat.le_of_ble_eq_true rfl)) rfl rfl rfl ?_
        refine z_iconst E dX10_rounds_32 ic_1 ?_
        refine z_iload_n E 2 dX10_rounds_33 rfl ?_
        refine z_ishl E dX10_rounds_34 ?_
        refine z_iconst E dX10_rounds_35 ic_1 ?_
        refine z_isub E dX10_rounds_36 ?_
        refine z_iand E dX10_rounds_37 ?_
        rcases oi e with ⟨c15, e⟩ | ⟨c15, e⟩
        · refine z_if_neT (tgt := 45) E dX10_rounds_38 rfl c15 ?_
          refine z_iconst E dX10_rounds_45 ic_0 ?_
          refine z_iadd E dX10_rounds_46 ?_
          refine z_istore_n (lv2 := [(1, .int (v1 + (0 : Int32))), (0, .ref v0), (2, .int v2)]) E dX10_rounds_47 (by decide) rfl ?_
          refine z_iinc (v := (v2 + (1 : Int32))) (lv2 := [(2, .int (v2 + (1 : Int32))), (1, .int (v1 + (0 : Int32))), (0, .ref v0)]) E 2 dX10_rounds_48 rfl (congrArg (v2 + ·) ic_1) (by decide) rfl ?_
          refine z_goto (tgt := 4) E dX10_rounds_51 rfl ?_
          exact z_sub [2, 1, 0] rfl (ih _ _ _ _ e kk)
        · refine z_if_neF (tgt := 45) E dX10_rounds_38 rfl (Classical.not_not.mp c15) ?_
          refine z_iconst E dX10_rounds_41 ic_1 ?_
          refine z_goto (tgt := 46) E dX10_rounds_42 rfl ?_
          refine z_iadd E dX10_rounds_46 ?_
          refine z_istore_n (lv2 := [(1, .int (v1 + (1 : Int32))), (0, .ref v0), (2, .int v2)]) E dX10_rounds_47 (by decide) rfl ?_
          refine z_iinc (v := (v2 + (1 : Int32))) (lv2 := [(2, .int (v2 + (1 : Int32))), (1, .int (v1 + (1 : Int32))), (0, .ref v0)]) E 2 dX10_rounds_48 rfl (congrArg (v2 + ·) ic_1) (by decide) rfl ?_
          refine z_goto (tgt := 4) E dX10_rounds_51 rfl ?_
          exact z_sub [2, 1, 0] rfl (ih _ _ _ _ e kk)
noncomputable def f_X10_rounds (h : PH) (a0 : Nat) : Option Int32 :=
  (f_X10_rounds_L4 FV h a0 (0 : Int32) (0 : Int32)).bind fun s1 =>
  some s1
theorem b_X10_rounds {X : PX} (E : z_E X cX10_rounds RX10 "rounds" 3 rmX10_rounds (some .int)) (T0 : z_T0 X) {h : PH} {a0 : Nat} {r : Int32} (e : f_X10_rounds h a0 = some r) (M : z_M X rmX10_rounds.cells rmX10_rounds.slots (.inr (some (.int r))) h) : WP X 3 0 0 0 [(0, .ref a0)] [] h := by
  unfold f_X10_rounds at e
  refine z_iconst E dX10_rounds_0 ic_0 ?_
  refine z_istore_n (lv2 := [(1, .int (0 : Int32)), (0, .ref a0)]) E dX10_rounds_1 (by decide) rfl ?_
  refine z_iconst E dX10_rounds_2 ic_0 ?_
  refine z_istore_n (lv2 := [(2, .int (0 : Int32)), (1, .int (0 : Int32)), (0, .ref a0)]) E dX10_rounds_3 (by decide) rfl ?_
  obtain ⟨s1, e2, e⟩ := ob e
  refine z_sub [2, 1, 0] rfl (b_X10_rounds_L4 E T0 (by decide) (by decide) FV _ _ _ _ e2 ?_)
  refine z_iload_n E 0 dX10_rounds_54 rfl ?_
  obtain rfl := Option.some.inj e
  exact z_iret E M dX10_rounds_55 rfl rfl rfl rfl (by decide) (by decide)
theorem c_X10_rounds {l : Launch} (hl : l.stackTraces = false) {h : PH} {a0 : Nat} {r : Int32} (e : f_X10_rounds h a0 = some r) : CMet l yX10_rounds (z_W yX10_rounds cX10_rounds 3 (some .int)) rmX10_rounds h [.ref a0] (.inr (some (.int r))) h :=
  z_met hl Y_X10_rounds (by decide +kernel) (Nat.le_of_ble_eq_true rfl) (fun X hX E T0 M => b_X10_rounds E T0 e M)
abbrev rmX10_circles : Room := { frames := 4, cells := 0, slots := 0, locals := 91 }
noncomputable def f_X10_circles (h : PH) (a0 : Nat) : Option (Int32 × PH) :=
  (wr h a0 12 8 (.int (0 : Int32))).bind fun h1 =>
  (gd h1 a0 12).bind fun _ =>
  (f_X10_rounds h1 a0).bind fun p4 =>
  some (p4, h1)
theorem b_X10_circles {X : PX} (E : z_E X cX10_circles RX10 "circles" 1 rmX10_circles (some .int)) (T0 : z_T0 X) {h : PH} {a0 : Nat} {r : (Int32 × PH)} (e : f_X10_circles h a0 = some r) (M : z_M X rmX10_circles.cells rmX10_circles.slots (.inr (some (.int r.1))) r.2) : WP X 1 0 0 0 [(0, .ref a0)] [] h := by
  unfold f_X10_circles at e
  refine z_aload_n E 0 dX10_circles_0 rfl ?_
  refine z_iconst E dX10_circles_1 ic_0 ?_
  obtain ⟨h1, e2, e⟩ := ob e
  refine z_putI E fp_X10_36 (Or.inl rfl) dX10_circles_2 e2 ?_
  refine z_aload_n E 0 dX10_circles_5 rfl ?_
  obtain ⟨_, e3, e⟩ := ob e
  obtain ⟨p4, e5, e⟩ := ob e
  refine z_kR2 (st := []) (av := [.ref a0]) E 0 0 (z_rV (st := []) (av := []) E Y_X10_rounds k_X10_123 (ci := 12) rfl (c_X10_rounds (z_El E) e5) dX10_circles_6 e3 rfl rfl (by decide) (by decide) (by decide) (by decide) (Nat.zero_le _)) rfl rfl rfl ?_
  obtain rfl := Option.some.inj e
  exact z_iret E M dX10_circles_9 rfl rfl rfl rfl (by decide) (by decide)
theorem c_X10_circles {l : Launch} (hl : l.stackTraces = false) {h : PH} {a0 : Nat} {r : (Int32 × PH)} (e : f_X10_circles h a0 = some r) : CMet l yX10_circles (z_W yX10_circles cX10_circles 1 (some .int)) rmX10_circles h [.ref a0] (.inr (some (.int r.1))) r.2 :=
  z_met hl Y_X10_circles (by decide +kernel) (Nat.le_of_ble_eq_true rfl) (fun X hX E T0 M => b_X10_circles E T0 e M)
abbrev rmX0_circleOf : Room := { frames := 1, cells := 0, slots := 0, locals := 21 }
noncomputable def f_X0_circleOf_L5 : Nat → PH → Nat → Nat → Int32 → Int32 → Int32 → Option Int32
  | 0, _, _, _, _, _, _ => none
  | fu + 1, h, v0, v1, v2, v3, v4 =>
    (rdI h v1 9 0).bind fun x1 =>
    if x1 ≤ v4 then
      some v3
    else
      (rdR h v0 4 0).bind fun x4 =>
      (alI .int h x4 v2).bind fun x6 =>
      if (f_X9_has x6 v4) = false then
        f_X0_circleOf_L5 fu h v0 v1 v2 v3 (v4 + (1 : Int32))
      else
        (rdR h v0 4 0).bind fun x9 =>
        (alI .int h x9 v4).bind fun x11 =>
        if (f_X9_has x11 v2) = false then
          f_X0_circleOf_L5 fu h v0 v1 v2 v3 (v4 + (1 : Int32))
        else
          f_X0_circleOf_L5 fu h v0 v1 v2 (v3 ||| (f_X9_bit v4)) (v4 + (1 : Int32))
theorem b_X0_circleOf_L5 {X : PX} (E : z_E X cX0_circleOf RX0 "circleOf" 5 rmX0_circleOf (some .int)) (T0 : z_T0 X) {k n : Nat} (hk : k + 0 ≤ rmX0_circleOf.cells) (hn : n + 0 ≤ rmX0_circleOf.slots) {s : Int32} : ∀ (fu : Nat) (h : PH) (v0 : Nat) (v1 : Nat) (v2 : Int32) (v3 : Int32) (v4 : Int32) (e : f_X0_circleOf_L5 fu h v0 v1 v2 v3 v4 = some s) (kk : WP X 5 k n 56 [(3, .int s)] [] h), WP X 5 k n 5 [(0, .ref v0), (1, .ref v1), (2, .int v2), (3, .int v3), (4, .int v4)] [] h := by
  intro fu
  induction fu with
  | zero => intro h v0 v1 v2 v3 v4 e; exact absurd (show (none : Option Int32) = some s from e) (by intro z; cases z)
  | succ fu ih =>
    intro h v0 v1 v2 v3 v4 e kk
    unfold f_X0_circleOf_L5 at e
    refine z_iload E 4 dX0_circleOf_5 rfl ?_
    refine z_aload_n E 1 dX0_circleOf_7 rfl ?_
    obtain ⟨x1, e2, e⟩ := ob e
    refine z_getI E fl_X0_50 dX0_circleOf_8 e2 ?_
    rcases oi e with ⟨c3, e⟩ | ⟨c3, e⟩
    · refine z_icmp_geT (tgt := 56) E dX0_circleOf_11 rfl c3 ?_
      obtain rfl := Option.some.inj e
      exact z_sub [3] rfl kk
    · refine z_icmp_geF (tgt := 56) E dX0_circleOf_11 rfl c3 ?_
      refine z_aload_n E 0 dX0_circleOf_14 rfl ?_
      obtain ⟨x4, e5, e⟩ := ob e
      refine z_getR E fl_X0_9 dX0_circleOf_15 e5 ?_
      refine z_iload_n E 2 dX0_circleOf_18 rfl ?_
      obtain ⟨x6, e7, e⟩ := ob e
      refine z_iald E dX0_circleOf_19 e7 ?_
      refine z_iload E 4 dX0_circleOf_20 rfl ?_
      refine z_kR2 (st := []) (av := [.int x6, .int v4]) E k n (z_rSN (st := []) (av := [.int x6, .int v4]) E Y_X9_has k_X0_35 (c_X9_has (l := z_l X) (h := h) (z_El E) x6 v4) dX0_circleOf_22 rfl rfl (by decide) (by decide) (zk (k := k) (a := 0) hk (by decide)) (zk (k := n) (a := 0) hn (by decide)) (Nat.zero_le _)) rfl rfl rfl ?_
      rcases oi e with ⟨c8, e⟩ | ⟨c8, e⟩
      · refine z_if_eqT (tgt := 50) E dX0_circleOf_25 rfl (zb_f c8) ?_
        refine z_iinc (v := (v4 + (1 : Int32))) (lv2 := [(4, .int (v4 + (1 : Int32))), (0, .ref v0), (1, .ref v1), (2, .int v2), (3, .int v3)]) E 4 dX0_circleOf_50 rfl (congrArg (v4 + ·) ic_1) (by decide) rfl ?_
        refine z_goto (tgt := 5) E dX0_circleOf_53 rfl ?_
        exact z_sub [1, 2, 3, 4, 0] rfl (ih _ _ _ _ _ _ e kk)
      · refine z_if_eqF (tgt := 50) E dX0_circleOf_25 rfl (zb_nf c8) ?_
        refine z_aload_n E 0 dX0_circleOf_28 rfl ?_
        obtain ⟨x9, e10, e⟩ := ob e
        refine z_getR E fl_X0_9 dX0_circleOf_29 e10 ?_
        refine z_iload E 4 dX0_circleOf_32 rfl ?_
        obtain ⟨x11, e12, e⟩ := ob e
        refine z_iald E dX0_circleOf_34 e12 ?_
        refine z_iload_n E 2 dX0_circleOf_35 rfl ?_
        refine z_kR2 (st := []) (av := [.int x11, .int v2]) E k n (z_rSN (st := []) (av := [.int x11, .int v2]) E Y_X9_has k_X0_35 (c_X9_has (l := z_l X) (h := h) (z_El E) x11 v2) dX0_circleOf_36 rfl rfl (by decide) (by decide) (zk (k := k) (a := 0) hk (by decide)) (zk (k := n) (a := 0) hn (by decide)) (Nat.zero_le _)) rfl rfl rfl ?_
        rcases oi e with ⟨c13, e⟩ | ⟨c13, e⟩
        · refine z_if_eqT (tgt := 50) E dX0_circleOf_39 rfl (zb_f c13) ?_
          refine z_iinc (v := (v4 + (1 : Int32))) (lv2 := [(4, .int (v4 + (1 : Int32))), (0, .ref v0), (1, .ref v1), (2, .int v2), (3, .int v3)]) E 4 dX0_circleOf_50 rfl (congrArg (v4 + ·) ic_1) (by decide) rfl ?_
          refine z_goto (tgt := 5) E dX0_circleOf_53 rfl ?_
          exact z_sub [1, 2, 3, 4, 0] rfl (ih _ _ _ _ _ _ e kk)
        · refine z_if_eqF (tgt := 50) E dX0_circleOf_39 rfl (zb_nf c13) ?_
          refine z_iload_n E 3 dX0_circleOf_42 rfl ?_
          refine z_iload E 4 dX0_circleOf_43 rfl ?_
          refine z_kR2 (st := [.int v3]) (av := [.int v4]) E k n (z_rSN (st := [.int v3]) (av := [.int v4]) E Y_X9_bit k_X0_62 (c_X9_bit (l := z_l X) (h := h) (z_El E) v4) dX0_circleOf_45 rfl rfl (by decide) (by decide) (zk (k := k) (a := 0) hk (by decide)) (zk (k := n) (a := 0) hn (by decide)) (Nat.le_of_ble_eq_true rfl)) rfl rfl rfl ?_
          refine z_ior E dX0_circleOf_48 ?_
          refine z_istore_n (lv2 := [(3, .int (v3 ||| (f_X9_bit v4))), (0, .ref v0), (1, .ref v1), (2, .int v2), (4, .int v4)]) E dX0_circleOf_49 (by decide) rfl ?_
          refine z_iinc (v := (v4 + (1 : Int32))) (lv2 := [(4, .int (v4 + (1 : Int32))), (3, .int (v3 ||| (f_X9_bit v4))), (0, .ref v0), (1, .ref v1), (2, .int v2)]) E 4 dX0_circleOf_50 rfl (congrArg (v4 + ·) ic_1) (by decide) rfl ?_
          refine z_goto (tgt := 5) E dX0_circleOf_53 rfl ?_
          exact z_sub [2, 3, 4, 1, 0] rfl (ih _ _ _ _ _ _ e kk)
noncomputable def f_X0_circleOf (h : PH) (a0 : Nat) (a1 : Nat) (a2 : Int32) : Option Int32 :=
  (f_X0_circleOf_L5 FV h a0 a1 a2 (0 : Int32) (0 : Int32)).bind fun s1 =>
  some s1
theorem b_X0_circleOf {X : PX} (E : z_E X cX0_circleOf RX0 "circleOf" 5 rmX0_circleOf (some .int)) (T0 : z_T0 X) {h : PH} {a0 : Nat} {a1 : Nat} {a2 : Int32} {r : Int32} (e : f_X0_circleOf h a0 a1 a2 = some r) (M : z_M X rmX0_circleOf.cells rmX0_circleOf.slots (.inr (some (.int r))) h) : WP X 5 0 0 0 [(0, .ref a0), (1, .ref a1), (2, .int a2)] [] h := by
  unfold f_X0_circleOf at e
  refine z_iconst E dX0_circleOf_0 ic_0 ?_
  refine z_istore_n (lv2 := [(3, .int (0 : Int32)), (0, .ref a0), (1, .ref a1), (2, .int a2)]) E dX0_circleOf_1 (by decide) rfl ?_
  refine z_iconst E dX0_circleOf_2 ic_0 ?_
  refine z_istore (lv2 := [(4, .int (0 : Int32)), (3, .int (0 : Int32)), (0, .ref a0), (1, .ref a1), (2, .int a2)]) E dX0_circleOf_3 (by decide) rfl ?_
  obtain ⟨s1, e2, e⟩ := ob e
  refine z_sub [2, 3, 4, 1, 0] rfl (b_X0_circleOf_L5 E T0 (by decide) (by decide) FV _ _ _ _ _ _ e2 ?_)
  refine z_iload_n E 0 dX0_circleOf_56 rfl ?_
  obtain rfl := Option.some.inj e
  exact z_iret E M dX0_circleOf_57 rfl rfl rfl rfl (by decide) (by decide)
theorem c_X0_circleOf {l : Launch} (hl : l.stackTraces = false) {h : PH} {a0 : Nat} {a1 : Nat} {a2 : Int32} {r : Int32} (e : f_X0_circleOf h a0 a1 a2 = some r) : CMet l yX0_circleOf (z_W yX0_circleOf cX0_circleOf 5 (some .int)) rmX0_circleOf h [.ref a0, .ref a1, .int a2] (.inr (some (.int r))) h :=
  z_met hl Y_X0_circleOf (by decide +kernel) (Nat.le_of_ble_eq_true rfl) (fun X hX E T0 M => b_X0_circleOf E T0 e M)
abbrev rmX0_countByTable : Room := { frames := 2, cells := 0, slots := 0, locals := 83 }
noncomputable def f_X0_countByTable_L9 : Nat → PH → Nat → Nat → Int32 → Int32 → Option Int32
  | 0, _, _, _, _, _ => none
  | fu + 1, h, v0, v1, v2, v3 =>
    (rdI h v1 9 0).bind fun x1 =>
    if x1 ≤ v3 then
      some v2
    else
      (gd h v0 4).bind fun _ =>
      (f_X0_circleOf h v0 v1 v3).bind fun p5 =>
      if (f_X9_has p5 v3) = false then
        f_X0_countByTable_L9 fu h v0 v1 v2 (v3 + (1 : Int32))
      else
        if ¬ (p5 &&& ((f_X9_bit v3) - (1 : Int32))) = 0 then
          f_X0_countByTable_L9 fu h v0 v1 v2 (v3 + (1 : Int32))
        else
          f_X0_countByTable_L9 fu h v0 v1 (v2 + (1 : Int32)) (v3 + (1 : Int32))
theorem b_X0_countByTable_L9 {X : PX} (E : z_E X cX0_countByTable RX0 "countByTable" 5 rmX0_countByTable (some .int)) (T0 : z_T0 X) {k n : Nat} (hk : k + 0 ≤ rmX0_countByTable.cells) (hn : n + 0 ≤ rmX0_countByTable.slots) {s : Int32} : ∀ (fu : Nat) (h : PH) (v0 : Nat) (v1 : Nat) (v2 : Int32) (v3 : Int32) (e : f_X0_countByTable_L9 fu h v0 v1 v2 v3 = some s) (kk : WP X 5 k n 55 [(2, .int s)] [] h), WP X 5 k n 9 [(0, .ref v0), (1, .ref v1), (2, .int v2), (3, .int v3)] [] h := by
  intro fu
  induction fu with
  | zero => intro h v0 v1 v2 v3 e; exact absurd (show (none : Option Int32) = some s from e) (by intro z; cases z)
  | succ fu ih =>
    intro h v0 v1 v2 v3 e kk
    unfold f_X0_countByTable_L9 at e
    refine z_iload_n E 3 dX0_countByTable_9 rfl ?_
    refine z_aload_n E 1 dX0_countByTable_10 rfl ?_
    obtain ⟨x1, e2, e⟩ := ob e
    refine z_getI E fl_X0_50 dX0_countByTable_11 e2 ?_
    rcases oi e with ⟨c3, e⟩ | ⟨c3, e⟩
    · refine z_icmp_geT (tgt := 55) E dX0_countByTable_14 rfl c3 ?_
      obtain rfl := Option.some.inj e
      exact z_sub [2] rfl kk
    · refine z_icmp_geF (tgt := 55) E dX0_countByTable_14 rfl c3 ?_
      refine z_aload_n E 0 dX0_countByTable_17 rfl ?_
      refine z_aload_n E 1 dX0_countByTable_18 rfl ?_
      refine z_iload_n E 3 dX0_countByTable_19 rfl ?_
      obtain ⟨_, e4, e⟩ := ob e
      obtain ⟨p5, e6, e⟩ := ob e
      refine z_kR2 (st := []) (av := [.ref v0, .ref v1, .int v3]) E k n (z_rV (st := []) (av := [.ref v1, .int v3]) E Y_X0_circleOf k_X0_58 (ci := 4) rfl (c_X0_circleOf (z_El E) e6) dX0_countByTable_20 e4 rfl rfl (by decide) (by decide) (zk (k := k) (a := 0) hk (by decide)) (zk (k := n) (a := 0) hn (by decide)) (Nat.zero_le _)) rfl rfl rfl ?_
      refine z_istore (lv2 := [(4, .int p5), (0, .ref v0), (1, .ref v1), (2, .int v2), (3, .int v3)]) E dX0_countByTable_23 (by decide) rfl ?_
      refine z_iload E 0 dX0_countByTable_25 rfl ?_
      refine z_iload_n E 4 dX0_countByTable_27 rfl ?_
      refine z_kR2 (st := []) (av := [.int p5, .int v3]) E k n (z_rSN (st := []) (av := [.int p5, .int v3]) E Y_X9_has k_X0_35 (c_X9_has (l := z_l X) (h := h) (z_El E) p5 v3) dX0_countByTable_28 rfl rfl (by decide) (by decide) (zk (k := k) (a := 0) hk (by decide)) (zk (k := n) (a := 0) hn (by decide)) (Nat.zero_le _)) rfl rfl rfl ?_
      rcases oi e with ⟨c7, e⟩ | ⟨c7, e⟩
      · refine z_if_eqT (tgt := 49) E dX0_countByTable_31 rfl (zb_f c7) ?_
        refine z_iinc (v := (v3 + (1 : Int32))) (lv2 := [(3, .int (v3 + (1 : Int32))), (4, .int p5), (0, .ref v0), (1, .ref v1), (2, .int v2)]) E 4 dX0_countByTable_49 rfl (congrArg (v3 + ·) ic_1) (by decide) rfl ?_
        refine z_goto (tgt := 9) E dX0_countByTable_52 rfl ?_
        exact z_sub [2, 3, 4, 0] rfl (ih _ _ _ _ _ e kk)
      · refine z_if_eqF (tgt := 49) E dX0_countByTable_31 rfl (zb_nf c7) ?_
        refine z_iload E 0 dX0_countByTable_34 rfl ?_
        refine z_iload_n E 4 dX0_countByTable_36 rfl ?_
        refine z_kR2 (st := [.int p5]) (av := [.int v3]) E k n (z_rSN (st := [.int p5]) (av := [.int v3]) E Y_X9_bit k_X0_62 (c_X9_bit (l := z_l X) (h := h) (z_El E) v3) dX0_countByTable_37 rfl rfl (by decide) (by decide) (zk (k := k) (a := 0) hk (by decide)) (zk (k := n) (a := 0) hn (by decide)) (Nat.le_of_ble_eq_true rfl)) rfl rfl rfl ?_
        refine z_iconst E dX0_countByTable_40 ic_1 ?_
        refine z_isub E dX0_countByTable_41 ?_
        refine z_iand E dX0_countByTable_42 ?_
        rcases oi e with ⟨c8, e⟩ | ⟨c8, e⟩
        · refine z_if_neT (tgt := 49) E dX0_countByTable_43 rfl c8 ?_
          refine z_iinc (v := (v3 + (1 : Int32))) (lv2 := [(3, .int (v3 + (1 : Int32))), (4, .int p5), (0, .ref v0), (1, .ref v1), (2, .int v2)]) E 4 dX0_countByTable_49 rfl (congrArg (v3 + ·) ic_1) (by decide) rfl ?_
          refine z_goto (tgt := 9) E dX0_countByTable_52 rfl ?_
          exact z_sub [2, 3, 4, 0] rfl (ih _ _ _ _ _ e kk)
        · refine z_if_neF (tgt := 49) E dX0_countByTable_43 rfl (Classical.not_not.mp c8) ?_
          refine z_iinc (v := (v2 + (1 : Int32))) (lv2 := [(2, .int (v2 + (1 : Int32))), (4, .int p5), (0, .ref v0), (1, .ref v1), (3, .int v3)]) E 3 dX0_countByTable_46 rfl (congrArg (v2 + ·) ic_1) (by decide) rfl ?_
          refine z_iinc (v := (v3 + (1 : Int32))) (lv2 := [(3, .int (v3 + (1 : Int32))), (2, .int (v2 + (1 : Int32))), (4, .int p5), (0, .ref v0), (1, .ref v1)]) E 4 dX0_countByTable_49 rfl (congrArg (v3 + ·) ic_1) (by decide) rfl ?_
          refine z_goto (tgt := 9) E dX0_countByTable_52 rfl ?_
          exact z_sub [3, 4, 1, 0] rfl (ih _ _ _ _ _ e kk)
noncomputable def f_X0_countByTable (h : PH) (a0 : Nat) (a1 : Nat) : Option (Int32 × PH) :=
  (gd h a0 4).bind fun _ =>
  (f_X0_fillReached h a0 a1).bind fun p2 =>
  (f_X0_countByTable_L9 FV p2 a0 a1 (0 : Int32) (0 : Int32)).bind fun s4 =>
  some (s4, p2)
theorem b_X0_countByTable {X : PX} (E : z_E X cX0_countByTable RX0 "countByTable" 5 rmX0_countByTable (some .int)) (T0 : z_T0 X) {h : PH} {a0 : Nat} {a1 : Nat} {r : (Int32 × PH)} (e : f_X0_countByTable h a0 a1 = some r) (M : z_M X rmX0_countByTable.cells rmX0_countByTable.slots (.inr (some (.int r.1))) r.2) : WP X 5 0 0 0 [(0, .ref a0), (1, .ref a1)] [] h := by
  unfold f_X0_countByTable at e
  refine z_aload_n E 0 dX0_countByTable_0 rfl ?_
  refine z_aload_n E 1 dX0_countByTable_1 rfl ?_
  obtain ⟨_, e1, e⟩ := ob e
  obtain ⟨p2, e3, e⟩ := ob e
  refine z_kV2 (st := []) (av := [.ref a0, .ref a1]) E 0 0 (z_rV (st := []) (av := [.ref a1]) E Y_X0_fillReached k_X0_31 (ci := 4) rfl (c_X0_fillReached (z_El E) e3) dX0_countByTable_2 e1 rfl rfl (by decide) (by decide) (by decide) (by decide) (Nat.zero_le _)) rfl rfl rfl ?_
  refine z_iconst E dX0_countByTable_5 ic_0 ?_
  refine z_istore_n (lv2 := [(2, .int (0 : Int32)), (0, .ref a0), (1, .ref a1)]) E dX0_countByTable_6 (by decide) rfl ?_
  refine z_iconst E dX0_countByTable_7 ic_0 ?_
  refine z_istore_n (lv2 := [(3, .int (0 : Int32)), (2, .int (0 : Int32)), (0, .ref a0), (1, .ref a1)]) E dX0_countByTable_8 (by decide) rfl ?_
  obtain ⟨s4, e5, e⟩ := ob e
  refine z_sub [2, 3, 1, 0] rfl (b_X0_countByTable_L9 E T0 (by decide) (by decide) FV _ _ _ _ _ e5 ?_)
  refine z_iload_n E 0 dX0_countByTable_55 rfl ?_
  obtain rfl := Option.some.inj e
  exact z_iret E M dX0_countByTable_56 rfl rfl rfl rfl (by decide) (by decide)
theorem c_X0_countByTable {l : Launch} (hl : l.stackTraces = false) {h : PH} {a0 : Nat} {a1 : Nat} {r : (Int32 × PH)} (e : f_X0_countByTable h a0 a1 = some r) : CMet l yX0_countByTable (z_W yX0_countByTable cX0_countByTable 5 (some .int)) rmX0_countByTable h [.ref a0, .ref a1] (.inr (some (.int r.1))) r.2 :=
  z_met hl Y_X0_countByTable (by decide +kernel) (Nat.le_of_ble_eq_true rfl) (fun X hX E T0 M => b_X0_countByTable E T0 e M)
abbrev rmX9_circlesByTable : Room := { frames := 3, cells := 0, slots := 0, locals := 107 }
noncomputable def f_X9_circlesByTable (h : PH) (a0 : Nat) : Option (Int32 × PH) :=
  (rdR h a0 11 4).bind fun x1 =>
  (rdR h a0 11 0).bind fun x3 =>
  (gd h x1 4).bind fun _ =>
  (f_X0_countByTable h x1 x3).bind fun p6 =>
  some (p6.1, p6.2)
theorem b_X9_circlesByTable {X : PX} (E : z_E X cX9_circlesByTable RX9 "circlesByTable" 1 rmX9_circlesByTable (some .int)) (T0 : z_T0 X) {h : PH} {a0 : Nat} {r : (Int32 × PH)} (e : f_X9_circlesByTable h a0 = some r) (M : z_M X rmX9_circlesByTable.cells rmX9_circlesByTable.slots (.inr (some (.int r.1))) r.2) : WP X 1 0 0 0 [(0, .ref a0)] [] h := by
  unfold f_X9_circlesByTable at e
  refine z_aload_n E 0 dX9_circlesByTable_0 rfl ?_
  obtain ⟨x1, e2, e⟩ := ob e
  refine z_getR E fl_X9_36 dX9_circlesByTable_1 e2 ?_
  refine z_aload_n E 0 dX9_circlesByTable_4 rfl ?_
  obtain ⟨x3, e4, e⟩ := ob e
  refine z_getR E fl_X9_12 dX9_circlesByTable_5 e4 ?_
  obtain ⟨_, e5, e⟩ := ob e
  obtain ⟨p6, e7, e⟩ := ob e
  refine z_kR2 (st := []) (av := [.ref x1, .ref x3]) E 0 0 (z_rV (st := []) (av := [.ref x3]) E Y_X0_countByTable k_X9_103 (ci := 4) rfl (c_X0_countByTable (z_El E) e7) dX9_circlesByTable_8 e5 rfl rfl (by decide) (by decide) (by decide) (by decide) (Nat.zero_le _)) rfl rfl rfl ?_
  obtain rfl := Option.some.inj e
  exact z_iret E M dX9_circlesByTable_11 rfl rfl rfl rfl (by decide) (by decide)
theorem c_X9_circlesByTable {l : Launch} (hl : l.stackTraces = false) {h : PH} {a0 : Nat} {r : (Int32 × PH)} (e : f_X9_circlesByTable h a0 = some r) : CMet l yX9_circlesByTable (z_W yX9_circlesByTable cX9_circlesByTable 1 (some .int)) rmX9_circlesByTable h [.ref a0] (.inr (some (.int r.1))) r.2 :=
  z_met hl Y_X9_circlesByTable (by decide +kernel) (Nat.le_of_ble_eq_true rfl) (fun X hX E T0 M => b_X9_circlesByTable E T0 e M)
abbrev rmX10_circlesByTable : Room := { frames := 4, cells := 0, slots := 0, locals := 91 }
noncomputable def f_X10_circlesByTable (h : PH) (a0 : Nat) : Option (Int32 × PH) :=
  (wr h a0 12 8 (.int (0 : Int32))).bind fun h1 =>
  (gd h1 a0 12).bind fun _ =>
  (f_X10_rounds h1 a0).bind fun p4 =>
  some (p4, h1)
theorem b_X10_circlesByTable {X : PX} (E : z_E X cX10_circlesByTable RX10 "circlesByTable" 1 rmX10_circlesByTable (some .int)) (T0 : z_T0 X) {h : PH} {a0 : Nat} {r : (Int32 × PH)} (e : f_X10_circlesByTable h a0 = some r) (M : z_M X rmX10_circlesByTable.cells rmX10_circlesByTable.slots (.inr (some (.int r.1))) r.2) : WP X 1 0 0 0 [(0, .ref a0)] [] h := by
  unfold f_X10_circlesByTable at e
  refine z_aload_n E 0 dX10_circlesByTable_0 rfl ?_
  refine z_iconst E dX10_circlesByTable_1 ic_0 ?_
  obtain ⟨h1, e2, e⟩ := ob e
  refine z_putI E fp_X10_36 (Or.inl rfl) dX10_circlesByTable_2 e2 ?_
  refine z_aload_n E 0 dX10_circlesByTable_5 rfl ?_
  obtain ⟨_, e3, e⟩ := ob e
  obtain ⟨p4, e5, e⟩ := ob e
  refine z_kR2 (st := []) (av := [.ref a0]) E 0 0 (z_rV (st := []) (av := []) E Y_X10_rounds k_X10_123 (ci := 12) rfl (c_X10_rounds (z_El E) e5) dX10_circlesByTable_6 e3 rfl rfl (by decide) (by decide) (by decide) (by decide) (Nat.zero_le _)) rfl rfl rfl ?_
  obtain rfl := Option.some.inj e
  exact z_iret E M dX10_circlesByTable_9 rfl rfl rfl rfl (by decide) (by decide)
theorem c_X10_circlesByTable {l : Launch} (hl : l.stackTraces = false) {h : PH} {a0 : Nat} {r : (Int32 × PH)} (e : f_X10_circlesByTable h a0 = some r) : CMet l yX10_circlesByTable (z_W yX10_circlesByTable cX10_circlesByTable 1 (some .int)) rmX10_circlesByTable h [.ref a0] (.inr (some (.int r.1))) r.2 :=
  z_met hl Y_X10_circlesByTable (by decide +kernel) (Nat.le_of_ble_eq_true rfl) (fun X hX E T0 M => b_X10_circlesByTable E T0 e M)
abbrev rmX0_sizeAround : Room := { frames := 2, cells := 0, slots := 0, locals := 83 }
noncomputable def f_X0_sizeAround (h : PH) (a0 : Nat) (a1 : Nat) (a2 : Int32) : Option (Int32 × PH) :=
  (gd h a0 4).bind fun _ =>
  (f_X0_fillReached h a0 a1).bind fun p2 =>
  (gd p2 a0 4).bind fun _ =>
  (f_X0_circleOf p2 a0 a1 a2).bind fun p5 =>
  some ((f_J9_max_7cf53 (1 : Int32) (f_J6_bitCount_0f7a4 p5)), p2)
theorem b_X0_sizeAround {X : PX} (E : z_E X cX0_sizeAround RX0 "sizeAround" 3 rmX0_sizeAround (some .int)) (T0 : z_T0 X) {h : PH} {a0 : Nat} {a1 : Nat} {a2 : Int32} {r : (Int32 × PH)} (e : f_X0_sizeAround h a0 a1 a2 = some r) (M : z_M X rmX0_sizeAround.cells rmX0_sizeAround.slots (.inr (some (.int r.1))) r.2) : WP X 3 0 0 0 [(0, .ref a0), (1, .ref a1), (2, .int a2)] [] h := by
  unfold f_X0_sizeAround at e
  refine z_aload_n E 0 dX0_sizeAround_0 rfl ?_
  refine z_aload_n E 1 dX0_sizeAround_1 rfl ?_
  obtain ⟨_, e1, e⟩ := ob e
  obtain ⟨p2, e3, e⟩ := ob e
  refine z_kV2 (st := []) (av := [.ref a0, .ref a1]) E 0 0 (z_rV (st := []) (av := [.ref a1]) E Y_X0_fillReached k_X0_31 (ci := 4) rfl (c_X0_fillReached (z_El E) e3) dX0_sizeAround_2 e1 rfl rfl (by decide) (by decide) (by decide) (by decide) (Nat.zero_le _)) rfl rfl rfl ?_
  refine z_iconst E dX0_sizeAround_5 ic_1 ?_
  refine z_aload_n E 0 dX0_sizeAround_6 rfl ?_
  refine z_aload_n E 1 dX0_sizeAround_7 rfl ?_
  refine z_iload_n E 2 dX0_sizeAround_8 rfl ?_
  obtain ⟨_, e4, e⟩ := ob e
  obtain ⟨p5, e6, e⟩ := ob e
  refine z_kR2 (st := [.int (1 : Int32)]) (av := [.ref a0, .ref a1, .int a2]) E 0 0 (z_rV (st := [.int (1 : Int32)]) (av := [.ref a1, .int a2]) E Y_X0_circleOf k_X0_58 (ci := 4) rfl (c_X0_circleOf (z_El E) e6) dX0_sizeAround_9 e4 rfl rfl (by decide) (by decide) (by decide) (by decide) (Nat.le_of_ble_eq_true rfl)) rfl rfl rfl ?_
  refine z_kR2 (st := [.int (1 : Int32)]) (av := [.int p5]) E 0 0 (z_rS (st := [.int (1 : Int32)]) (av := [.int p5]) E Y_J6_bitCount_0f7a4 k_X0_66 (c_J6_bitCount_0f7a4 (l := z_l X) (h := p2) (z_El E) p5) dX0_sizeAround_12 rfl rfl (by decide) (by decide) (by decide) (by decide) (Nat.le_of_ble_eq_true rfl)) rfl rfl rfl ?_
  refine z_kR2 (st := []) (av := [.int (1 : Int32), .int (f_J6_bitCount_0f7a4 p5)]) E 0 0 (z_rS (st := []) (av := [.int (1 : Int32), .int (f_J6_bitCount_0f7a4 p5)]) E Y_J9_max_7cf53 k_X0_71 (c_J9_max_7cf53 (l := z_l X) (h := p2) (z_El E) (1 : Int32) (f_J6_bitCount_0f7a4 p5)) dX0_sizeAround_15 rfl rfl (by decide) (by decide) (by decide) (by decide) (Nat.zero_le _)) rfl rfl rfl ?_
  obtain rfl := Option.some.inj e
  exact z_iret E M dX0_sizeAround_18 rfl rfl rfl rfl (by decide) (by decide)
theorem c_X0_sizeAround {l : Launch} (hl : l.stackTraces = false) {h : PH} {a0 : Nat} {a1 : Nat} {a2 : Int32} {r : (Int32 × PH)} (e : f_X0_sizeAround h a0 a1 a2 = some r) : CMet l yX0_sizeAround (z_W yX0_sizeAround cX0_sizeAround 3 (some .int)) rmX0_sizeAround h [.ref a0, .ref a1, .int a2] (.inr (some (.int r.1))) r.2 :=
  z_met hl Y_X0_sizeAround (by decide +kernel) (Nat.le_of_ble_eq_true rfl) (fun X hX E T0 M => b_X0_sizeAround E T0 e M)
abbrev rmX9_circleSize : Room := { frames := 7, cells := 1, slots := 6, locals := 113 }
noncomputable def f_X9_circleSize (h : PH) (a0 : Nat) (a1 : Int32) : Option ((String ⊕ Int32) × PH) :=
  (gd h a0 11).bind fun _ =>
  (f_X9_needNote h a0 a1).bind fun p2 =>
  Sum.elim
    (fun E4 =>
    some ((Sum.inl E4), h))
    (fun y6 =>
    (rdR h a0 11 4).bind fun x7 =>
    (rdR h a0 11 0).bind fun x9 =>
    (gd h x7 4).bind fun _ =>
    (f_X0_sizeAround h x7 x9 a1).bind fun p12 =>
    some ((Sum.inr p12.1), p12.2)) p2
theorem b_X9_circleSize {X : PX} (E : z_E X cX9_circleSize RX9 "circleSize" 2 rmX9_circleSize (some .int)) (T0 : z_T0 X) {h : PH} {a0 : Nat} {a1 : Int32} {r : ((String ⊕ Int32) × PH)} (e : f_X9_circleSize h a0 a1 = some r) (M : z_M X rmX9_circleSize.cells rmX9_circleSize.slots (zoI r.1) r.2) : WP X 2 0 0 0 [(0, .ref a0), (1, .int a1)] [] h := by
  unfold f_X9_circleSize at e
  refine z_aload_n E 0 dX9_circleSize_0 rfl ?_
  refine z_iload_n E 1 dX9_circleSize_1 rfl ?_
  obtain ⟨_, e1, e⟩ := ob e
  obtain ⟨p2, e3, e⟩ := ob e
  rcases os e with ⟨E4, c5, e⟩ | ⟨y6, c5, e⟩
  · obtain rfl := Option.some.inj e
    refine z_kX2 (st := []) (av := [.ref a0, .int a1]) E 1 6 (z_rV (st := []) (av := [.int a1]) E Y_X9_needNote k_X9_69 (ci := 11) rfl (zc_o (c_X9_needNote (z_El E) e3) (by rw [c5]; rfl)) dX9_circleSize_2 e1 rfl rfl (by decide) (by decide) (by decide) (by decide) (Nat.zero_le _)) rfl rfl rfl ?_
    exact z_outX E T0 M rfl rfl (by decide) (by decide)
  · refine z_kV2 (st := []) (av := [.ref a0, .int a1]) E 1 6 (z_rV (st := []) (av := [.int a1]) E Y_X9_needNote k_X9_69 (ci := 11) rfl (zc_o (c_X9_needNote (z_El E) e3) (by rw [c5]; rfl)) dX9_circleSize_2 e1 rfl rfl (by decide) (by decide) (by decide) (by decide) (Nat.zero_le _)) rfl rfl rfl ?_
    refine z_aload_n E 0 dX9_circleSize_5 rfl ?_
    obtain ⟨x7, e8, e⟩ := ob e
    refine z_getR E fl_X9_36 dX9_circleSize_6 e8 ?_
    refine z_aload_n E 0 dX9_circleSize_9 rfl ?_
    obtain ⟨x9, e10, e⟩ := ob e
    refine z_getR E fl_X9_12 dX9_circleSize_10 e10 ?_
    refine z_iload_n E 1 dX9_circleSize_13 rfl ?_
    obtain ⟨_, e11, e⟩ := ob e
    obtain ⟨p12, e13, e⟩ := ob e
    refine z_kR2 (st := []) (av := [.ref x7, .ref x9, .int a1]) E 1 6 (z_rV (st := []) (av := [.ref x9, .int a1]) E Y_X0_sizeAround k_X9_106 (ci := 4) rfl (c_X0_sizeAround (z_El E) e13) dX9_circleSize_14 e11 rfl rfl (by decide) (by decide) (by decide) (by decide) (Nat.zero_le _)) rfl rfl rfl ?_
    obtain rfl := Option.some.inj e
    exact z_iret E M dX9_circleSize_17 rfl rfl rfl rfl (by decide) (by decide)
theorem c_X9_circleSize {l : Launch} (hl : l.stackTraces = false) {h : PH} {a0 : Nat} {a1 : Int32} {r : ((String ⊕ Int32) × PH)} (e : f_X9_circleSize h a0 a1 = some r) : CMet l yX9_circleSize (z_W yX9_circleSize cX9_circleSize 2 (some .int)) rmX9_circleSize h [.ref a0, .int a1] (zoI r.1) r.2 :=
  z_met hl Y_X9_circleSize (by decide +kernel) (Nat.le_of_ble_eq_true rfl) (fun X hX E T0 M => b_X9_circleSize E T0 e M)
abbrev rmL_circleSize : Room := { frames := 8, cells := 1, slots := 6, locals := 134 }
noncomputable def f_L_circleSize (h : PH) (a0 : Nat) (a1 : Int32) (a2 : Nat) : Option (Int32 × PH) :=
  (gd h a0 11).bind fun _ =>
  (f_X9_circleSize h a0 a1).bind fun p2 =>
  Sum.elim
    (fun E4 =>
    if E4 = "java/util/NoSuchElementException" then
      some ((1 : Int32), p2.2)
    else none)
    (fun y6 =>
    (asL p2.2 a2 (0 : Int32) y6.toInt64).bind fun h8 =>
    some ((0 : Int32), h8)) p2.1
theorem b_L_circleSize {X : PX} (E : z_E X cL_circleSize RL "circleSize" 4 rmL_circleSize (some .int)) (TT : z_TT X [(0, 9, 12, 20)]) {h : PH} {a0 : Nat} {a1 : Int32} {a2 : Nat} {r : (Int32 × PH)} (e : f_L_circleSize h a0 a1 a2 = some r) (M : z_M X rmL_circleSize.cells rmL_circleSize.slots (.inr (some (.int r.1))) r.2) : WP X 4 0 0 0 [(0, .ref a0), (1, .int a1), (2, .ref a2)] [] h := by
  unfold f_L_circleSize at e
  refine z_aload_n E 2 dL_circleSize_0 rfl ?_
  refine z_iconst E dL_circleSize_1 ic_0 ?_
  refine z_aload_n E 0 dL_circleSize_2 rfl ?_
  refine z_iload_n E 1 dL_circleSize_3 rfl ?_
  obtain ⟨_, e1, e⟩ := ob e
  obtain ⟨p2, e3, e⟩ := ob e
  rcases os e with ⟨E4, c5, e⟩ | ⟨y6, c5, e⟩
  · rcases oi e with ⟨c7, e⟩ | ⟨c7, e⟩
    · subst c7
      refine z_kX2 (st := [.int (0 : Int32), .ref a2]) (av := [.ref a0, .int a1]) E 1 6 (z_rV (st := [.int (0 : Int32), .ref a2]) (av := [.int a1]) E Y_X9_circleSize k_L_46 (ci := 11) rfl (zc_o (c_X9_circleSize (z_El E) e3) (by rw [c5]; rfl)) dL_circleSize_4 e1 rfl rfl (by decide) (by decide) (by decide) (by decide) (Nat.le_of_ble_eq_true rfl)) rfl rfl rfl ?_
      refine z_catch (lv2 := [(0, .ref a0), (1, .int a1), (2, .ref a2)]) E TT 0 (q := (0, 9, 12, 20)) rfl rfl (by decide) cl_L_20 kb_NoSuchElementException (fun z hz => nomatch hz) (Or.inl ⟨_, dL_circleSize_12, rfl, rfl⟩) (by decide) rfl ?_
      refine z_iconst E dL_circleSize_13 ic_1 ?_
      obtain rfl := Option.some.inj e
      exact z_iret E M dL_circleSize_14 rfl rfl rfl rfl (by decide) (by decide)
    cases e
  · refine z_kR2 (st := [.int (0 : Int32), .ref a2]) (av := [.ref a0, .int a1]) E 1 6 (z_rV (st := [.int (0 : Int32), .ref a2]) (av := [.int a1]) E Y_X9_circleSize k_L_46 (ci := 11) rfl (zc_o (c_X9_circleSize (z_El E) e3) (by rw [c5]; rfl)) dL_circleSize_4 e1 rfl rfl (by decide) (by decide) (by decide) (by decide) (Nat.le_of_ble_eq_true rfl)) rfl rfl rfl ?_
    refine z_i2l (v := y6.toInt64) E dL_circleSize_7 rfl ?_
    obtain ⟨h8, e9, e⟩ := ob e
    refine z_last E dL_circleSize_8 e9 ?_
    refine z_goto (tgt := 15) E dL_circleSize_9 rfl ?_
    refine z_iconst E dL_circleSize_15 ic_0 ?_
    obtain rfl := Option.some.inj e
    exact z_iret E M dL_circleSize_16 rfl rfl rfl rfl (by decide) (by decide)
theorem c_L_circleSize {l : Launch} (hl : l.stackTraces = false) {h : PH} {a0 : Nat} {a1 : Int32} {a2 : Nat} {r : (Int32 × PH)} (e : f_L_circleSize h a0 a1 a2 = some r) : CMet l yL_circleSize (z_WH yL_circleSize cL_circleSize 4 (some .int) [(0, 9, 12, 20)]) rmL_circleSize h [.ref a0, .int a1, .ref a2] (.inr (some (.int r.1))) r.2 :=
  z_metH hl Y_L_circleSize (by decide +kernel) (Nat.le_of_ble_eq_true rfl) (fun X hX E T0 M => b_L_circleSize E T0 e M)
abbrev rmX10_circleSize : Room := { frames := 3, cells := 0, slots := 0, locals := 69 }
noncomputable def f_X10_circleSize (h : PH) (a0 : Nat) (a1 : Int32) : Option (Int32 × PH) :=
  (gd h a0 12).bind fun _ =>
  (f_X10_isNone h a0 a1).bind fun p2 =>
  if p2.1 = false then
    (gd p2.2 a0 12).bind fun _ =>
    (f_X10_circle p2.2 a0 a1).bind fun p6 =>
    (f_X10_bits p6).bind fun p8 =>
    some (p8, p2.2)
  else
    some ((0 : Int32), p2.2)
theorem b_X10_circleSize {X : PX} (E : z_E X cX10_circleSize RX10 "circleSize" 2 rmX10_circleSize (some .int)) (T0 : z_T0 X) {h : PH} {a0 : Nat} {a1 : Int32} {r : (Int32 × PH)} (e : f_X10_circleSize h a0 a1 = some r) (M : z_M X rmX10_circleSize.cells rmX10_circleSize.slots (.inr (some (.int r.1))) r.2) : WP X 2 0 0 0 [(0, .ref a0), (1, .int a1)] [] h := by
  unfold f_X10_circleSize at e
  refine z_aload_n E 0 dX10_circleSize_0 rfl ?_
  refine z_iload_n E 1 dX10_circleSize_1 rfl ?_
  obtain ⟨_, e1, e⟩ := ob e
  obtain ⟨p2, e3, e⟩ := ob e
  refine z_kR2 (st := []) (av := [.ref a0, .int a1]) E 0 0 (z_rV (st := []) (av := [.int a1]) E Y_X10_isNone k_X10_107 (ci := 12) rfl (c_X10_isNone (z_El E) e3) dX10_circleSize_2 e1 rfl rfl (by decide) (by decide) (by decide) (by decide) (Nat.zero_le _)) rfl rfl rfl ?_
  rcases oi e with ⟨c4, e⟩ | ⟨c4, e⟩
  · refine z_if_eqT (tgt := 12) E dX10_circleSize_5 rfl (zb_f c4) ?_
    refine z_aload_n E 0 dX10_circleSize_12 rfl ?_
    refine z_iload_n E 1 dX10_circleSize_13 rfl ?_
    obtain ⟨_, e5, e⟩ := ob e
    obtain ⟨p6, e7, e⟩ := ob e
    refine z_kR2 (st := []) (av := [.ref a0, .int a1]) E 0 0 (z_rV (st := []) (av := [.int a1]) E Y_X10_circle k_X10_120 (ci := 12) rfl (c_X10_circle (z_El E) e7) dX10_circleSize_14 e5 rfl rfl (by decide) (by decide) (by decide) (by decide) (Nat.zero_le _)) rfl rfl rfl ?_
    obtain ⟨p8, e9, e⟩ := ob e
    refine z_kR2 (st := []) (av := [.int p6]) E 0 0 (z_rS (st := []) (av := [.int p6]) E Y_X10_bits k_X10_99 (c_X10_bits (z_El E) e9) dX10_circleSize_17 rfl rfl (by decide) (by decide) (by decide) (by decide) (Nat.zero_le _)) rfl rfl rfl ?_
    obtain rfl := Option.some.inj e
    exact z_iret E M dX10_circleSize_20 rfl rfl rfl rfl (by decide) (by decide)
  · refine z_if_eqF (tgt := 12) E dX10_circleSize_5 rfl (zb_nf c4) ?_
    refine z_iconst E dX10_circleSize_8 ic_0 ?_
    refine z_goto (tgt := 20) E dX10_circleSize_9 rfl ?_
    obtain rfl := Option.some.inj e
    exact z_iret E M dX10_circleSize_20 rfl rfl rfl rfl (by decide) (by decide)
theorem c_X10_circleSize {l : Launch} (hl : l.stackTraces = false) {h : PH} {a0 : Nat} {a1 : Int32} {r : (Int32 × PH)} (e : f_X10_circleSize h a0 a1 = some r) : CMet l yX10_circleSize (z_W yX10_circleSize cX10_circleSize 2 (some .int)) rmX10_circleSize h [.ref a0, .int a1] (.inr (some (.int r.1))) r.2 :=
  z_met hl Y_X10_circleSize (by decide +kernel) (Nat.le_of_ble_eq_true rfl) (fun X hX E T0 M => b_X10_circleSize E T0 e M)
abbrev rmX0_fillCiting : Room := { frames := 2, cells := 0, slots := 0, locals := 44 }
noncomputable def f_X0_fillCiting_L2 : Nat → PH → Nat → Nat → Int32 → Option PH
  | 0, _, _, _, _ => none
  | fu + 1, h, v0, v1, v2 =>
    (rdI h v1 9 0).bind fun x1 =>
    if x1 ≤ v2 then
      some h
    else
      (rdR h v0 4 2).bind fun x4 =>
      (gd h v1 9).bind fun _ =>
      (f_X7_countCiting h v1 v2).bind fun p7 =>
      (asI .int h x4 v2 p7).bind fun h9 =>
      f_X0_fillCiting_L2 fu h9 v0 v1 (v2 + (1 : Int32))
theorem b_X0_fillCiting_L2 {X : PX} (E : z_E X cX0_fillCiting RX0 "fillCiting" 3 rmX0_fillCiting none) (T0 : z_T0 X) {k n : Nat} (hk : k + 0 ≤ rmX0_fillCiting.cells) (hn : n + 0 ≤ rmX0_fillCiting.slots) {s : PH} : ∀ (fu : Nat) (h : PH) (v0 : Nat) (v1 : Nat) (v2 : Int32) (e : f_X0_fillCiting_L2 fu h v0 v1 v2 = some s) (kk : WP X 3 k n 27 [] [] s), WP X 3 k n 2 [(0, .ref v0), (1, .ref v1), (2, .int v2)] [] h := by
  intro fu
  induction fu with
  | zero => intro h v0 v1 v2 e; exact absurd (show (none : Option PH) = some s from e) (by intro z; cases z)
  | succ fu ih =>
    intro h v0 v1 v2 e kk
    unfold f_X0_fillCiting_L2 at e
    refine z_iload_n E 2 dX0_fillCiting_2 rfl ?_
    refine z_aload_n E 1 dX0_fillCiting_3 rfl ?_
    obtain ⟨x1, e2, e⟩ := ob e
    refine z_getI E fl_X0_50 dX0_fillCiting_4 e2 ?_
    rcases oi e with ⟨c3, e⟩ | ⟨c3, e⟩
    · refine z_icmp_geT (tgt := 27) E dX0_fillCiting_7 rfl c3 ?_
      obtain rfl := Option.some.inj e
      exact z_sub [] rfl kk
    · refine z_icmp_geF (tgt := 27) E dX0_fillCiting_7 rfl c3 ?_
      refine z_aload_n E 0 dX0_fillCiting_10 rfl ?_
      obtain ⟨x4, e5, e⟩ := ob e
      refine z_getR E fl_X0_18 dX0_fillCiting_11 e5 ?_
      refine z_iload_n E 2 dX0_fillCiting_14 rfl ?_
      refine z_aload_n E 1 dX0_fillCiting_15 rfl ?_
      refine z_iload_n E 2 dX0_fillCiting_16 rfl ?_
      obtain ⟨_, e6, e⟩ := ob e
      obtain ⟨p7, e8, e⟩ := ob e
      refine z_kR2 (st := [.int v2, .ref x4]) (av := [.ref v1, .int v2]) E k n (z_rV (st := [.int v2, .ref x4]) (av := [.int v2]) E Y_X7_countCiting k_X0_89 (ci := 9) rfl (c_X7_countCiting (z_El E) e8) dX0_fillCiting_17 e6 rfl rfl (by decide) (by decide) (zk (k := k) (a := 0) hk (by decide)) (zk (k := n) (a := 0) hn (by decide)) (Nat.le_of_ble_eq_true rfl)) rfl rfl rfl ?_
      obtain ⟨h9, e10, e⟩ := ob e
      refine z_iast E dX0_fillCiting_20 e10 ?_
      refine z_iinc (v := (v2 + (1 : Int32))) (lv2 := [(2, .int (v2 + (1 : Int32))), (0, .ref v0), (1, .ref v1)]) E 2 dX0_fillCiting_21 rfl (congrArg (v2 + ·) ic_1) (by decide) rfl ?_
      refine z_goto (tgt := 2) E dX0_fillCiting_24 rfl ?_
      exact z_sub [1, 2, 0] rfl (ih _ _ _ _ e kk)
noncomputable def f_X0_fillCiting (h : PH) (a0 : Nat) (a1 : Nat) : Option PH :=
  (f_X0_fillCiting_L2 FV h a0 a1 (0 : Int32)).bind fun s1 =>
  some s1
theorem b_X0_fillCiting {X : PX} (E : z_E X cX0_fillCiting RX0 "fillCiting" 3 rmX0_fillCiting none) (T0 : z_T0 X) {h : PH} {a0 : Nat} {a1 : Nat} {r : PH} (e : f_X0_fillCiting h a0 a1 = some r) (M : z_M X rmX0_fillCiting.cells rmX0_fillCiting.slots (.inr none) r) : WP X 3 0 0 0 [(0, .ref a0), (1, .ref a1)] [] h := by
  unfold f_X0_fillCiting at e
  refine z_iconst E dX0_fillCiting_0 ic_0 ?_
  refine z_istore_n (lv2 := [(2, .int (0 : Int32)), (0, .ref a0), (1, .ref a1)]) E dX0_fillCiting_1 (by decide) rfl ?_
  obtain ⟨s1, e2, e⟩ := ob e
  refine z_sub [1, 2, 0] rfl (b_X0_fillCiting_L2 E T0 (by decide) (by decide) FV _ _ _ _ e2 ?_)
  obtain rfl := Option.some.inj e
  exact z_vret E M dX0_fillCiting_27 rfl rfl rfl (by decide) (by decide)
theorem c_X0_fillCiting {l : Launch} (hl : l.stackTraces = false) {h : PH} {a0 : Nat} {a1 : Nat} {r : PH} (e : f_X0_fillCiting h a0 a1 = some r) : CMet l yX0_fillCiting (z_W yX0_fillCiting cX0_fillCiting 3 none) rmX0_fillCiting h [.ref a0, .ref a1] (.inr none) r :=
  z_met hl Y_X0_fillCiting (by decide +kernel) (Nat.le_of_ble_eq_true rfl) (fun X hX E T0 M => b_X0_fillCiting E T0 e M)
abbrev rmX0_comesBefore : Room := { frames := 0, cells := 0, slots := 0, locals := 0 }
noncomputable def f_X0_comesBefore (h : PH) (a0 : Nat) (a1 : Nat) (a2 : Int32) (a3 : Int32) : Option Bool :=
  (rdR h a0 4 2).bind fun x1 =>
  (alI .int h x1 a2).bind fun x3 =>
  (rdR h a0 4 2).bind fun x5 =>
  (alI .int h x5 a3).bind fun x7 =>
  if x3 = x7 then
    (rdR h a1 9 2).bind fun x10 =>
    (alI .int h x10 a2).bind fun x12 =>
    (rdR h a1 9 2).bind fun x14 =>
    (alI .int h x14 a3).bind fun x16 =>
    if x12 ≤ x16 then
      some false
    else
      some true
  else
    (rdR h a0 4 2).bind fun x19 =>
    (alI .int h x19 a2).bind fun x21 =>
    (rdR h a0 4 2).bind fun x23 =>
    (alI .int h x23 a3).bind fun x25 =>
    if x21 ≤ x25 then
      some false
    else
      some true
theorem b_X0_comesBefore {X : PX} (E : z_E X cX0_comesBefore RX0 "comesBefore" 4 rmX0_comesBefore (some .boolean)) (T0 : z_T0 X) {h : PH} {a0 : Nat} {a1 : Nat} {a2 : Int32} {a3 : Int32} {r : Bool} (e : f_X0_comesBefore h a0 a1 a2 a3 = some r) (M : z_M X rmX0_comesBefore.cells rmX0_comesBefore.slots (.inr (some (.int (zb r)))) h) : WP X 4 0 0 0 [(0, .ref a0), (1, .ref a1), (2, .int a2), (3, .int a3)] [] h := by
  unfold f_X0_comesBefore at e
  refine z_aload_n E 0 dX0_comesBefore_0 rfl ?_
  obtain ⟨x1, e2, e⟩ := ob e
  refine z_getR E fl_X0_18 dX0_comesBefore_1 e2 ?_
  refine z_iload_n E 2 dX0_comesBefore_4 rfl ?_
  obtain ⟨x3, e4, e⟩ := ob e
  refine z_iald E dX0_comesBefore_5 e4 ?_
  refine z_aload_n E 0 dX0_comesBefore_6 rfl ?_
  obtain ⟨x5, e6, e⟩ := ob e
  refine z_getR E fl_X0_18 dX0_comesBefore_7 e6 ?_
  refine z_iload_n E 3 dX0_comesBefore_10 rfl ?_
  obtain ⟨x7, e8, e⟩ := ob e
  refine z_iald E dX0_comesBefore_11 e8 ?_
  rcases oi e with ⟨c9, e⟩ | ⟨c9, e⟩
  · refine z_icmp_eqT (tgt := 36) E dX0_comesBefore_12 rfl c9 ?_
    refine z_aload_n E 1 dX0_comesBefore_36 rfl ?_
    obtain ⟨x10, e11, e⟩ := ob e
    refine z_getR E fl_X0_96 dX0_comesBefore_37 e11 ?_
    refine z_iload_n E 2 dX0_comesBefore_40 rfl ?_
    obtain ⟨x12, e13, e⟩ := ob e
    refine z_iald E dX0_comesBefore_41 e13 ?_
    refine z_aload_n E 1 dX0_comesBefore_42 rfl ?_
    obtain ⟨x14, e15, e⟩ := ob e
    refine z_getR E fl_X0_96 dX0_comesBefore_43 e15 ?_
    refine z_iload_n E 3 dX0_comesBefore_46 rfl ?_
    obtain ⟨x16, e17, e⟩ := ob e
    refine z_iald E dX0_comesBefore_47 e17 ?_
    rcases oi e with ⟨c18, e⟩ | ⟨c18, e⟩
    · refine z_icmp_leT (tgt := 55) E dX0_comesBefore_48 rfl c18 ?_
      refine z_iconst E dX0_comesBefore_55 ic_0 ?_
      obtain rfl := Option.some.inj e
      exact z_iret E M dX0_comesBefore_56 rfl rfl rfl rfl (by decide) (by decide)
    · refine z_icmp_leF (tgt := 55) E dX0_comesBefore_48 rfl c18 ?_
      refine z_iconst E dX0_comesBefore_51 ic_1 ?_
      refine z_goto (tgt := 56) E dX0_comesBefore_52 rfl ?_
      obtain rfl := Option.some.inj e
      exact z_iret E M dX0_comesBefore_56 rfl rfl rfl rfl (by decide) (by decide)
  · refine z_icmp_eqF (tgt := 36) E dX0_comesBefore_12 rfl c9 ?_
    refine z_aload_n E 0 dX0_comesBefore_15 rfl ?_
    obtain ⟨x19, e20, e⟩ := ob e
    refine z_getR E fl_X0_18 dX0_comesBefore_16 e20 ?_
    refine z_iload_n E 2 dX0_comesBefore_19 rfl ?_
    obtain ⟨x21, e22, e⟩ := ob e
    refine z_iald E dX0_comesBefore_20 e22 ?_
    refine z_aload_n E 0 dX0_comesBefore_21 rfl ?_
    obtain ⟨x23, e24, e⟩ := ob e
    refine z_getR E fl_X0_18 dX0_comesBefore_22 e24 ?_
    refine z_iload_n E 3 dX0_comesBefore_25 rfl ?_
    obtain ⟨x25, e26, e⟩ := ob e
    refine z_iald E dX0_comesBefore_26 e26 ?_
    rcases oi e with ⟨c27, e⟩ | ⟨c27, e⟩
    · refine z_icmp_leT (tgt := 34) E dX0_comesBefore_27 rfl c27 ?_
      refine z_iconst E dX0_comesBefore_34 ic_0 ?_
      obtain rfl := Option.some.inj e
      exact z_iret E M dX0_comesBefore_35 rfl rfl rfl rfl (by decide) (by decide)
    · refine z_icmp_leF (tgt := 34) E dX0_comesBefore_27 rfl c27 ?_
      refine z_iconst E dX0_comesBefore_30 ic_1 ?_
      refine z_goto (tgt := 35) E dX0_comesBefore_31 rfl ?_
      obtain rfl := Option.some.inj e
      exact z_iret E M dX0_comesBefore_35 rfl rfl rfl rfl (by decide) (by decide)
theorem c_X0_comesBefore {l : Launch} (hl : l.stackTraces = false) {h : PH} {a0 : Nat} {a1 : Nat} {a2 : Int32} {a3 : Int32} {r : Bool} (e : f_X0_comesBefore h a0 a1 a2 a3 = some r) : CMet l yX0_comesBefore (z_W yX0_comesBefore cX0_comesBefore 4 (some .boolean)) rmX0_comesBefore h [.ref a0, .ref a1, .int a2, .int a3] (.inr (some (.int (zb r)))) h :=
  z_met hl Y_X0_comesBefore (by decide +kernel) (Nat.le_of_ble_eq_true rfl) (fun X hX E T0 M => b_X0_comesBefore E T0 e M)
abbrev rmX0_sortNotes : Room := { frames := 3, cells := 0, slots := 0, locals := 66 }
noncomputable def f_X0_sortNotes_L17 : Nat → PH → Nat → Nat → Int32 → Int32 → Option (Int32 × PH)
  | 0, _, _, _, _, _ => none
  | fu + 1, h, v0, v1, v2, v3 =>
    if v3 ≤ 0 then
      some (v3, h)
    else
      (rdR h v0 4 1).bind fun x2 =>
      (alI .int h x2 (v3 - (1 : Int32))).bind fun x4 =>
      (gd h v0 4).bind fun _ =>
      (f_X0_comesBefore h v0 v1 v2 x4).bind fun p7 =>
      if p7 = false then
        some (v3, h)
      else
        (rdR h v0 4 1).bind fun x10 =>
        (rdR h v0 4 1).bind fun x12 =>
        (alI .int h x12 (v3 - (1 : Int32))).bind fun x14 =>
        (asI .int h x10 v3 x14).bind fun h16 =>
        f_X0_sortNotes_L17 fu h16 v0 v1 v2 (v3 + (-1 : Int32))
theorem b_X0_sortNotes_L17 {X : PX} (E : z_E X cX0_sortNotes RX0 "sortNotes" 4 rmX0_sortNotes none) (T0 : z_T0 X) {k n : Nat} (hk : k + 0 ≤ rmX0_sortNotes.cells) (hn : n + 0 ≤ rmX0_sortNotes.slots) {s : (Int32 × PH)} : ∀ (fu : Nat) (h : PH) (v0 : Nat) (v1 : Nat) (v2 : Int32) (v3 : Int32) (e : f_X0_sortNotes_L17 fu h v0 v1 v2 v3 = some s) (kk : WP X 4 k n 58 [(0, .ref v0), (1, .ref v1), (2, .int v2), (3, .int s.1)] [] s.2), WP X 4 k n 17 [(0, .ref v0), (1, .ref v1), (2, .int v2), (3, .int v3)] [] h := by
  intro fu
  induction fu with
  | zero => intro h v0 v1 v2 v3 e; exact absurd (show (none : Option (Int32 × PH)) = some s from e) (by intro z; cases z)
  | succ fu ih =>
    intro h v0 v1 v2 v3 e kk
    unfold f_X0_sortNotes_L17 at e
    refine z_iload_n E 3 dX0_sortNotes_17 rfl ?_
    rcases oi e with ⟨c1, e⟩ | ⟨c1, e⟩
    · refine z_if_leT (tgt := 58) E dX0_sortNotes_18 rfl c1 ?_
      obtain rfl := Option.some.inj e
      exact z_sub [0, 1, 2, 3] rfl kk
    · refine z_if_leF (tgt := 58) E dX0_sortNotes_18 rfl c1 ?_
      refine z_aload_n E 0 dX0_sortNotes_21 rfl ?_
      refine z_aload_n E 1 dX0_sortNotes_22 rfl ?_
      refine z_iload_n E 2 dX0_sortNotes_23 rfl ?_
      refine z_aload_n E 0 dX0_sortNotes_24 rfl ?_
      obtain ⟨x2, e3, e⟩ := ob e
      refine z_getR E fl_X0_15 dX0_sortNotes_25 e3 ?_
      refine z_iload_n E 3 dX0_sortNotes_28 rfl ?_
      refine z_iconst E dX0_sortNotes_29 ic_1 ?_
      refine z_isub E dX0_sortNotes_30 ?_
      obtain ⟨x4, e5, e⟩ := ob e
      refine z_iald E dX0_sortNotes_31 e5 ?_
      obtain ⟨_, e6, e⟩ := ob e
      obtain ⟨p7, e8, e⟩ := ob e
      refine z_kR2 (st := []) (av := [.ref v0, .ref v1, .int v2, .int x4]) E k n (z_rV (st := []) (av := [.ref v1, .int v2, .int x4]) E Y_X0_comesBefore k_X0_92 (ci := 4) rfl (c_X0_comesBefore (z_El E) e8) dX0_sortNotes_32 e6 rfl rfl (by decide) (by decide) (zk (k := k) (a := 0) hk (by decide)) (zk (k := n) (a := 0) hn (by decide)) (Nat.zero_le _)) rfl rfl rfl ?_
      rcases oi e with ⟨c9, e⟩ | ⟨c9, e⟩
      · refine z_if_eqT (tgt := 58) E dX0_sortNotes_35 rfl (zb_f c9) ?_
        obtain rfl := Option.some.inj e
        exact z_sub [0, 1, 2, 3] rfl kk
      · refine z_if_eqF (tgt := 58) E dX0_sortNotes_35 rfl (zb_nf c9) ?_
        refine z_aload_n E 0 dX0_sortNotes_38 rfl ?_
        obtain ⟨x10, e11, e⟩ := ob e
        refine z_getR E fl_X0_15 dX0_sortNotes_39 e11 ?_
        refine z_iload_n E 3 dX0_sortNotes_42 rfl ?_
        refine z_aload_n E 0 dX0_sortNotes_43 rfl ?_
        obtain ⟨x12, e13, e⟩ := ob e
        refine z_getR E fl_X0_15 dX0_sortNotes_44 e13 ?_
        refine z_iload_n E 3 dX0_sortNotes_47 rfl ?_
        refine z_iconst E dX0_sortNotes_48 ic_1 ?_
        refine z_isub E dX0_sortNotes_49 ?_
        obtain ⟨x14, e15, e⟩ := ob e
        refine z_iald E dX0_sortNotes_50 e15 ?_
        obtain ⟨h16, e17, e⟩ := ob e
        refine z_iast E dX0_sortNotes_51 e17 ?_
        refine z_iinc (v := (v3 + (-1 : Int32))) (lv2 := [(3, .int (v3 + (-1 : Int32))), (0, .ref v0), (1, .ref v1), (2, .int v2)]) E 3 dX0_sortNotes_52 rfl (congrArg (v3 + ·) ic_m1) (by decide) rfl ?_
        refine z_goto (tgt := 17) E dX0_sortNotes_55 rfl ?_
        exact z_sub [1, 2, 3, 0] rfl (ih _ _ _ _ _ e kk)
noncomputable def f_X0_sortNotes_L7 : Nat → PH → Nat → Nat → Int32 → Option PH
  | 0, _, _, _, _ => none
  | fu + 1, h, v0, v1, v2 =>
    (rdI h v1 9 0).bind fun x1 =>
    if x1 ≤ v2 then
      some h
    else
      (f_X0_sortNotes_L17 FV h v0 v1 v2 v2).bind fun s4 =>
      (rdR s4.2 v0 4 1).bind fun x6 =>
      (asI .int s4.2 x6 s4.1 v2).bind fun h8 =>
      f_X0_sortNotes_L7 fu h8 v0 v1 (v2 + (1 : Int32))
theorem b_X0_sortNotes_L7 {X : PX} (E : z_E X cX0_sortNotes RX0 "sortNotes" 4 rmX0_sortNotes none) (T0 : z_T0 X) {k n : Nat} (hk : k + 0 ≤ rmX0_sortNotes.cells) (hn : n + 0 ≤ rmX0_sortNotes.slots) {s : PH} : ∀ (fu : Nat) (h : PH) (v0 : Nat) (v1 : Nat) (v2 : Int32) (e : f_X0_sortNotes_L7 fu h v0 v1 v2 = some s) (kk : WP X 4 k n 71 [] [] s), WP X 4 k n 7 [(0, .ref v0), (1, .ref v1), (2, .int v2)] [] h := by
  intro fu
  induction fu with
  | zero => intro h v0 v1 v2 e; exact absurd (show (none : Option PH) = some s from e) (by intro z; cases z)
  | succ fu ih =>
    intro h v0 v1 v2 e kk
    unfold f_X0_sortNotes_L7 at e
    refine z_iload_n E 2 dX0_sortNotes_7 rfl ?_
    refine z_aload_n E 1 dX0_sortNotes_8 rfl ?_
    obtain ⟨x1, e2, e⟩ := ob e
    refine z_getI E fl_X0_50 dX0_sortNotes_9 e2 ?_
    rcases oi e with ⟨c3, e⟩ | ⟨c3, e⟩
    · refine z_icmp_geT (tgt := 71) E dX0_sortNotes_12 rfl c3 ?_
      obtain rfl := Option.some.inj e
      exact z_sub [] rfl kk
    · refine z_icmp_geF (tgt := 71) E dX0_sortNotes_12 rfl c3 ?_
      refine z_iload_n E 2 dX0_sortNotes_15 rfl ?_
      refine z_istore_n (lv2 := [(3, .int v2), (0, .ref v0), (1, .ref v1), (2, .int v2)]) E dX0_sortNotes_16 (by decide) rfl ?_
      obtain ⟨s4, e5, e⟩ := ob e
      refine z_sub [1, 2, 3, 0] rfl (b_X0_sortNotes_L17 E T0 (zk (k := k) (a := 0) hk (by decide)) (zk (k := n) (a := 0) hn (by decide)) FV _ _ _ _ _ e5 ?_)
      refine z_aload_n E 0 dX0_sortNotes_58 rfl ?_
      obtain ⟨x6, e7, e⟩ := ob e
      refine z_getR E fl_X0_15 dX0_sortNotes_59 e7 ?_
      refine z_iload_n E 3 dX0_sortNotes_62 rfl ?_
      refine z_iload_n E 2 dX0_sortNotes_63 rfl ?_
      obtain ⟨h8, e9, e⟩ := ob e
      refine z_iast E dX0_sortNotes_64 e9 ?_
      refine z_iinc (v := (v2 + (1 : Int32))) (lv2 := [(2, .int (v2 + (1 : Int32))), (0, .ref v0), (1, .ref v1), (3, .int s4.1)]) E 2 dX0_sortNotes_65 rfl (congrArg (v2 + ·) ic_1) (by decide) rfl ?_
      refine z_goto (tgt := 7) E dX0_sortNotes_68 rfl ?_
      exact z_sub [1, 2, 0] rfl (ih _ _ _ _ e kk)
noncomputable def f_X0_sortNotes (h : PH) (a0 : Nat) (a1 : Nat) : Option PH :=
  (gd h a0 4).bind fun _ =>
  (f_X0_fillCiting h a0 a1).bind fun p2 =>
  (f_X0_sortNotes_L7 FV p2 a0 a1 (0 : Int32)).bind fun s4 =>
  some s4
theorem b_X0_sortNotes {X : PX} (E : z_E X cX0_sortNotes RX0 "sortNotes" 4 rmX0_sortNotes none) (T0 : z_T0 X) {h : PH} {a0 : Nat} {a1 : Nat} {r : PH} (e : f_X0_sortNotes h a0 a1 = some r) (M : z_M X rmX0_sortNotes.cells rmX0_sortNotes.slots (.inr none) r) : WP X 4 0 0 0 [(0, .ref a0), (1, .ref a1)] [] h := by
  unfold f_X0_sortNotes at e
  refine z_aload_n E 0 dX0_sortNotes_0 rfl ?_
  refine z_aload_n E 1 dX0_sortNotes_1 rfl ?_
  obtain ⟨_, e1, e⟩ := ob e
  obtain ⟨p2, e3, e⟩ := ob e
  refine z_kV2 (st := []) (av := [.ref a0, .ref a1]) E 0 0 (z_rV (st := []) (av := [.ref a1]) E Y_X0_fillCiting k_X0_80 (ci := 4) rfl (c_X0_fillCiting (z_El E) e3) dX0_sortNotes_2 e1 rfl rfl (by decide) (by decide) (by decide) (by decide) (Nat.zero_le _)) rfl rfl rfl ?_
  refine z_iconst E dX0_sortNotes_5 ic_0 ?_
  refine z_istore_n (lv2 := [(2, .int (0 : Int32)), (0, .ref a0), (1, .ref a1)]) E dX0_sortNotes_6 (by decide) rfl ?_
  obtain ⟨s4, e5, e⟩ := ob e
  refine z_sub [1, 2, 0] rfl (b_X0_sortNotes_L7 E T0 (by decide) (by decide) FV _ _ _ _ e5 ?_)
  obtain rfl := Option.some.inj e
  exact z_vret E M dX0_sortNotes_71 rfl rfl rfl (by decide) (by decide)
theorem c_X0_sortNotes {l : Launch} (hl : l.stackTraces = false) {h : PH} {a0 : Nat} {a1 : Nat} {r : PH} (e : f_X0_sortNotes h a0 a1 = some r) : CMet l yX0_sortNotes (z_W yX0_sortNotes cX0_sortNotes 4 none) rmX0_sortNotes h [.ref a0, .ref a1] (.inr none) r :=
  z_met hl Y_X0_sortNotes (by decide +kernel) (Nat.le_of_ble_eq_true rfl) (fun X hX E T0 M => b_X0_sortNotes E T0 e M)
abbrev rmX0_indexByOrder : Room := { frames := 4, cells := 0, slots := 0, locals := 89 }
noncomputable def f_X0_indexByOrder_L7 : Nat → PH → Nat → Nat → Int32 → Option Int32
  | 0, _, _, _, _ => none
  | fu + 1, h, v0, v1, v2 =>
    (rdI h v1 9 0).bind fun x1 =>
    if x1 ≤ v2 then
      some v2
    else
      (rdR h v0 4 2).bind fun x4 =>
      (rdR h v0 4 1).bind fun x6 =>
      (alI .int h x6 v2).bind fun x8 =>
      (alI .int h x4 x8).bind fun x10 =>
      if x10 ≤ v2 then
        some v2
      else
        f_X0_indexByOrder_L7 fu h v0 v1 (v2 + (1 : Int32))
theorem b_X0_indexByOrder_L7 {X : PX} (E : z_E X cX0_indexByOrder RX0 "indexByOrder" 3 rmX0_indexByOrder (some .int)) (T0 : z_T0 X) {k n : Nat} (hk : k + 0 ≤ rmX0_indexByOrder.cells) (hn : n + 0 ≤ rmX0_indexByOrder.slots) {s : Int32} : ∀ (fu : Nat) (h : PH) (v0 : Nat) (v1 : Nat) (v2 : Int32) (e : f_X0_indexByOrder_L7 fu h v0 v1 v2 = some s) (kk : WP X 3 k n 36 [(2, .int s)] [] h), WP X 3 k n 7 [(0, .ref v0), (1, .ref v1), (2, .int v2)] [] h := by
  intro fu
  induction fu with
  | zero => intro h v0 v1 v2 e; exact absurd (show (none : Option Int32) = some s from e) (by intro z; cases z)
  | succ fu ih =>
    intro h v0 v1 v2 e kk
    unfold f_X0_indexByOrder_L7 at e
    refine z_iload_n E 2 dX0_indexByOrder_7 rfl ?_
    refine z_aload_n E 1 dX0_indexByOrder_8 rfl ?_
    obtain ⟨x1, e2, e⟩ := ob e
    refine z_getI E fl_X0_50 dX0_indexByOrder_9 e2 ?_
    rcases oi e with ⟨c3, e⟩ | ⟨c3, e⟩
    · refine z_icmp_geT (tgt := 36) E dX0_indexByOrder_12 rfl c3 ?_
      obtain rfl := Option.some.inj e
      exact z_sub [2] rfl kk
    · refine z_icmp_geF (tgt := 36) E dX0_indexByOrder_12 rfl c3 ?_
      refine z_aload_n E 0 dX0_indexByOrder_15 rfl ?_
      obtain ⟨x4, e5, e⟩ := ob e
      refine z_getR E fl_X0_18 dX0_indexByOrder_16 e5 ?_
      refine z_aload_n E 0 dX0_indexByOrder_19 rfl ?_
      obtain ⟨x6, e7, e⟩ := ob e
      refine z_getR E fl_X0_15 dX0_indexByOrder_20 e7 ?_
      refine z_iload_n E 2 dX0_indexByOrder_23 rfl ?_
      obtain ⟨x8, e9, e⟩ := ob e
      refine z_iald E dX0_indexByOrder_24 e9 ?_
      obtain ⟨x10, e11, e⟩ := ob e
      refine z_iald E dX0_indexByOrder_25 e11 ?_
      refine z_iload_n E 2 dX0_indexByOrder_26 rfl ?_
      rcases oi e with ⟨c12, e⟩ | ⟨c12, e⟩
      · refine z_icmp_leT (tgt := 36) E dX0_indexByOrder_27 rfl c12 ?_
        obtain rfl := Option.some.inj e
        exact z_sub [2] rfl kk
      · refine z_icmp_leF (tgt := 36) E dX0_indexByOrder_27 rfl c12 ?_
        refine z_iinc (v := (v2 + (1 : Int32))) (lv2 := [(2, .int (v2 + (1 : Int32))), (0, .ref v0), (1, .ref v1)]) E 2 dX0_indexByOrder_30 rfl (congrArg (v2 + ·) ic_1) (by decide) rfl ?_
        refine z_goto (tgt := 7) E dX0_indexByOrder_33 rfl ?_
        exact z_sub [1, 2, 0] rfl (ih _ _ _ _ e kk)
noncomputable def f_X0_indexByOrder (h : PH) (a0 : Nat) (a1 : Nat) : Option (Int32 × PH) :=
  (gd h a0 4).bind fun _ =>
  (f_X0_sortNotes h a0 a1).bind fun p2 =>
  (f_X0_indexByOrder_L7 FV p2 a0 a1 (0 : Int32)).bind fun s4 =>
  some (s4, p2)
theorem b_X0_indexByOrder {X : PX} (E : z_E X cX0_indexByOrder RX0 "indexByOrder" 3 rmX0_indexByOrder (some .int)) (T0 : z_T0 X) {h : PH} {a0 : Nat} {a1 : Nat} {r : (Int32 × PH)} (e : f_X0_indexByOrder h a0 a1 = some r) (M : z_M X rmX0_indexByOrder.cells rmX0_indexByOrder.slots (.inr (some (.int r.1))) r.2) : WP X 3 0 0 0 [(0, .ref a0), (1, .ref a1)] [] h := by
  unfold f_X0_indexByOrder at e
  refine z_aload_n E 0 dX0_indexByOrder_0 rfl ?_
  refine z_aload_n E 1 dX0_indexByOrder_1 rfl ?_
  obtain ⟨_, e1, e⟩ := ob e
  obtain ⟨p2, e3, e⟩ := ob e
  refine z_kV2 (st := []) (av := [.ref a0, .ref a1]) E 0 0 (z_rV (st := []) (av := [.ref a1]) E Y_X0_sortNotes k_X0_77 (ci := 4) rfl (c_X0_sortNotes (z_El E) e3) dX0_indexByOrder_2 e1 rfl rfl (by decide) (by decide) (by decide) (by decide) (Nat.zero_le _)) rfl rfl rfl ?_
  refine z_iconst E dX0_indexByOrder_5 ic_0 ?_
  refine z_istore_n (lv2 := [(2, .int (0 : Int32)), (0, .ref a0), (1, .ref a1)]) E dX0_indexByOrder_6 (by decide) rfl ?_
  obtain ⟨s4, e5, e⟩ := ob e
  refine z_sub [1, 2, 0] rfl (b_X0_indexByOrder_L7 E T0 (by decide) (by decide) FV _ _ _ _ e5 ?_)
  refine z_iload_n E 0 dX0_indexByOrder_36 rfl ?_
  obtain rfl := Option.some.inj e
  exact z_iret E M dX0_indexByOrder_37 rfl rfl rfl rfl (by decide) (by decide)
theorem c_X0_indexByOrder {l : Launch} (hl : l.stackTraces = false) {h : PH} {a0 : Nat} {a1 : Nat} {r : (Int32 × PH)} (e : f_X0_indexByOrder h a0 a1 = some r) : CMet l yX0_indexByOrder (z_W yX0_indexByOrder cX0_indexByOrder 3 (some .int)) rmX0_indexByOrder h [.ref a0, .ref a1] (.inr (some (.int r.1))) r.2 :=
  z_met hl Y_X0_indexByOrder (by decide +kernel) (Nat.le_of_ble_eq_true rfl) (fun X hX E T0 M => b_X0_indexByOrder E T0 e M)
abbrev rmX9_index : Room := { frames := 5, cells := 0, slots := 0, locals := 111 }
noncomputable def f_X9_index (h : PH) (a0 : Nat) : Option (Int32 × PH) :=
  (rdR h a0 11 4).bind fun x1 =>
  (rdR h a0 11 0).bind fun x3 =>
  (gd h x1 4).bind fun _ =>
  (f_X0_indexByOrder h x1 x3).bind fun p6 =>
  some (p6.1, p6.2)
theorem b_X9_index {X : PX} (E : z_E X cX9_index RX9 "index" 1 rmX9_index (some .int)) (T0 : z_T0 X) {h : PH} {a0 : Nat} {r : (Int32 × PH)} (e : f_X9_index h a0 = some r) (M : z_M X rmX9_index.cells rmX9_index.slots (.inr (some (.int r.1))) r.2) : WP X 1 0 0 0 [(0, .ref a0)] [] h := by
  unfold f_X9_index at e
  refine z_aload_n E 0 dX9_index_0 rfl ?_
  obtain ⟨x1, e2, e⟩ := ob e
  refine z_getR E fl_X9_36 dX9_index_1 e2 ?_
  refine z_aload_n E 0 dX9_index_4 rfl ?_
  obtain ⟨x3, e4, e⟩ := ob e
  refine z_getR E fl_X9_12 dX9_index_5 e4 ?_
  obtain ⟨_, e5, e⟩ := ob e
  obtain ⟨p6, e7, e⟩ := ob e
  refine z_kR2 (st := []) (av := [.ref x1, .ref x3]) E 0 0 (z_rV (st := []) (av := [.ref x3]) E Y_X0_indexByOrder k_X9_110 (ci := 4) rfl (c_X0_indexByOrder (z_El E) e7) dX9_index_8 e5 rfl rfl (by decide) (by decide) (by decide) (by decide) (Nat.zero_le _)) rfl rfl rfl ?_
  obtain rfl := Option.some.inj e
  exact z_iret E M dX9_index_11 rfl rfl rfl rfl (by decide) (by decide)
theorem c_X9_index {l : Launch} (hl : l.stackTraces = false) {h : PH} {a0 : Nat} {r : (Int32 × PH)} (e : f_X9_index h a0 = some r) : CMet l yX9_index (z_W yX9_index cX9_index 1 (some .int)) rmX9_index h [.ref a0] (.inr (some (.int r.1))) r.2 :=
  z_met hl Y_X9_index (by decide +kernel) (Nat.le_of_ble_eq_true rfl) (fun X hX E T0 M => b_X9_index E T0 e M)
abbrev rmX10_indexNow : Room := { frames := 2, cells := 0, slots := 0, locals := 45 }
noncomputable def f_X10_indexNow_L16 : Nat → PH → Nat → Int32 → Int32 → Int32 → Option Int32
  | 0, _, _, _, _, _ => none
  | fu + 1, h, v0, v1, v2, v3 =>
    (rdR h v0 12 0).bind fun x1 =>
    (alI .int h x1 (0 : Int32)).bind fun x3 =>
    if x3 ≤ v3 then
      some v2
    else
      (gd h v0 12).bind fun _ =>
      (f_X10_cited h v0 v3).bind fun p7 =>
      if p7 ≤ v1 then
        f_X10_indexNow_L16 fu h v0 v1 (v2 + (0 : Int32)) (v3 + (1 : Int32))
      else
        f_X10_indexNow_L16 fu h v0 v1 (v2 + (1 : Int32)) (v3 + (1 : Int32))
theorem b_X10_indexNow_L16 {X : PX} (E : z_E X cX10_indexNow RX10 "indexNow" 4 rmX10_indexNow (some .int)) (T0 : z_T0 X) {k n : Nat} (hk : k + 0 ≤ rmX10_indexNow.cells) (hn : n + 0 ≤ rmX10_indexNow.slots) {s : Int32} : ∀ (fu : Nat) (h : PH) (v0 : Nat) (v1 : Int32) (v2 : Int32) (v3 : Int32) (e : f_X10_indexNow_L16 fu h v0 v1 v2 v3 = some s) (kk : WP X 4 k n 49 [(0, .ref v0), (1, .int v1), (2, .int s)] [] h), WP X 4 k n 16 [(0, .ref v0), (1, .int v1), (2, .int v2), (3, .int v3)] [] h := by
  intro fu
  induction fu with
  | zero => intro h v0 v1 v2 v3 e; exact absurd (show (none : Option Int32) = some s from e) (by intro z; cases z)
  | succ fu ih =>
    intro h v0 v1 v2 v3 e kk
    unfold f_X10_indexNow_L16 at e
    refine z_iload_n E 3 dX10_indexNow_16 rfl ?_
    refine z_aload_n E 0 dX10_indexNow_17 rfl ?_
    obtain ⟨x1, e2, e⟩ := ob e
    refine z_getR E fl_X10_7 dX10_indexNow_18 e2 ?_
    refine z_iconst E dX10_indexNow_21 ic_0 ?_
    obtain ⟨x3, e4, e⟩ := ob e
    refine z_iald E dX10_indexNow_22 e4 ?_
    rcases oi e with ⟨c5, e⟩ | ⟨c5, e⟩
    · refine z_icmp_geT (tgt := 49) E dX10_indexNow_23 rfl c5 ?_
      obtain rfl := Option.some.inj e
      exact z_sub [0, 1, 2] rfl kk
    · refine z_icmp_geF (tgt := 49) E dX10_indexNow_23 rfl c5 ?_
      refine z_iload_n E 2 dX10_indexNow_26 rfl ?_
      refine z_aload_n E 0 dX10_indexNow_27 rfl ?_
      refine z_iload_n E 3 dX10_indexNow_28 rfl ?_
      obtain ⟨_, e6, e⟩ := ob e
      obtain ⟨p7, e8, e⟩ := ob e
      refine z_kR2 (st := [.int v2]) (av := [.ref v0, .int v3]) E k n (z_rV (st := [.int v2]) (av := [.int v3]) E Y_X10_cited k_X10_114 (ci := 12) rfl (c_X10_cited (z_El E) e8) dX10_indexNow_29 e6 rfl rfl (by decide) (by decide) (zk (k := k) (a := 0) hk (by decide)) (zk (k := n) (a := 0) hn (by decide)) (Nat.le_of_ble_eq_true rfl)) rfl rfl rfl ?_
      refine z_iload_n E 1 dX10_indexNow_32 rfl ?_
      rcases oi e with ⟨c9, e⟩ | ⟨c9, e⟩
      · refine z_icmp_leT (tgt := 40) E dX10_indexNow_33 rfl c9 ?_
        refine z_iconst E dX10_indexNow_40 ic_0 ?_
        refine z_iadd E dX10_indexNow_41 ?_
        refine z_istore_n (lv2 := [(2, .int (v2 + (0 : Int32))), (0, .ref v0), (1, .int v1), (3, .int v3)]) E dX10_indexNow_42 (by decide) rfl ?_
        refine z_iinc (v := (v3 + (1 : Int32))) (lv2 := [(3, .int (v3 + (1 : Int32))), (2, .int (v2 + (0 : Int32))), (0, .ref v0), (1, .int v1)]) E 3 dX10_indexNow_43 rfl (congrArg (v3 + ·) ic_1) (by decide) rfl ?_
        refine z_goto (tgt := 16) E dX10_indexNow_46 rfl ?_
        exact z_sub [2, 3, 1, 0] rfl (ih _ _ _ _ _ e kk)
      · refine z_icmp_leF (tgt := 40) E dX10_indexNow_33 rfl c9 ?_
        refine z_iconst E dX10_indexNow_36 ic_1 ?_
        refine z_goto (tgt := 41) E dX10_indexNow_37 rfl ?_
        refine z_iadd E dX10_indexNow_41 ?_
        refine z_istore_n (lv2 := [(2, .int (v2 + (1 : Int32))), (0, .ref v0), (1, .int v1), (3, .int v3)]) E dX10_indexNow_42 (by decide) rfl ?_
        refine z_iinc (v := (v3 + (1 : Int32))) (lv2 := [(3, .int (v3 + (1 : Int32))), (2, .int (v2 + (1 : Int32))), (0, .ref v0), (1, .int v1)]) E 3 dX10_indexNow_43 rfl (congrArg (v3 + ·) ic_1) (by decide) rfl ?_
        refine z_goto (tgt := 16) E dX10_indexNow_46 rfl ?_
        exact z_sub [2, 3, 1, 0] rfl (ih _ _ _ _ _ e kk)
noncomputable def f_X10_indexNow_L2 : Nat → PH → Nat → Int32 → Option (Int32 ⊕ Int32)
  | 0, _, _, _ => none
  | fu + 1, h, v0, v1 =>
    (rdR h v0 12 0).bind fun x1 =>
    (alI .int h x1 (0 : Int32)).bind fun x3 =>
    if x3 ≤ v1 then
      some (Sum.inr v1)
    else
      (f_X10_indexNow_L16 FV h v0 v1 (0 : Int32) (0 : Int32)).bind fun s6 =>
      if v1 < s6 then
        f_X10_indexNow_L2 fu h v0 (v1 + (1 : Int32))
      else
        some (Sum.inl v1)
theorem b_X10_indexNow_L2 {X : PX} (E : z_E X cX10_indexNow RX10 "indexNow" 4 rmX10_indexNow (some .int)) (T0 : z_T0 X) {k n : Nat} (hk : k + 0 ≤ rmX10_indexNow.cells) (hn : n + 0 ≤ rmX10_indexNow.slots) {s : (Int32 ⊕ Int32)} : ∀ (fu : Nat) (h : PH) (v0 : Nat) (v1 : Int32) (e : f_X10_indexNow_L2 fu h v0 v1 = some s) (M : ∀ q, s = Sum.inl q → z_M X rmX10_indexNow.cells rmX10_indexNow.slots (.inr (some (.int q))) h) (kk : ∀ t, s = Sum.inr t → WP X 4 k n 62 [(1, .int t)] [] h), WP X 4 k n 2 [(0, .ref v0), (1, .int v1)] [] h := by
  intro fu
  induction fu with
  | zero => intro h v0 v1 e; exact absurd (show (none : Option (Int32 ⊕ Int32)) = some s from e) (by intro z; cases z)
  | succ fu ih =>
    intro h v0 v1 e M kk
    unfold f_X10_indexNow_L2 at e
    refine z_iload_n E 1 dX10_indexNow_2 rfl ?_
    refine z_aload_n E 0 dX10_indexNow_3 rfl ?_
    obtain ⟨x1, e2, e⟩ := ob e
    refine z_getR E fl_X10_7 dX10_indexNow_4 e2 ?_
    refine z_iconst E dX10_indexNow_7 ic_0 ?_
    obtain ⟨x3, e4, e⟩ := ob e
    refine z_iald E dX10_indexNow_8 e4 ?_
    rcases oi e with ⟨c5, e⟩ | ⟨c5, e⟩
    · refine z_icmp_geT (tgt := 62) E dX10_indexNow_9 rfl c5 ?_
      obtain rfl := Option.some.inj e
      exact z_sub [1] rfl (kk _ rfl)
    · refine z_icmp_geF (tgt := 62) E dX10_indexNow_9 rfl c5 ?_
      refine z_iconst E dX10_indexNow_12 ic_0 ?_
      refine z_istore_n (lv2 := [(2, .int (0 : Int32)), (0, .ref v0), (1, .int v1)]) E dX10_indexNow_13 (by decide) rfl ?_
      refine z_iconst E dX10_indexNow_14 ic_0 ?_
      refine z_istore_n (lv2 := [(3, .int (0 : Int32)), (2, .int (0 : Int32)), (0, .ref v0), (1, .int v1)]) E dX10_indexNow_15 (by decide) rfl ?_
      obtain ⟨s6, e7, e⟩ := ob e
      refine z_sub [2, 3, 1, 0] rfl (b_X10_indexNow_L16 E T0 (zk (k := k) (a := 0) hk (by decide)) (zk (k := n) (a := 0) hn (by decide)) FV _ _ _ _ _ e7 ?_)
      refine z_iload_n E 2 dX10_indexNow_49 rfl ?_
      refine z_iload_n E 1 dX10_indexNow_50 rfl ?_
      rcases oi e with ⟨c8, e⟩ | ⟨c8, e⟩
      · refine z_icmp_gtT (tgt := 56) E dX10_indexNow_51 rfl c8 ?_
        refine z_iinc (v := (v1 + (1 : Int32))) (lv2 := [(1, .int (v1 + (1 : Int32))), (0, .ref v0), (2, .int s6)]) E 1 dX10_indexNow_56 rfl (congrArg (v1 + ·) ic_1) (by decide) rfl ?_
        refine z_goto (tgt := 2) E dX10_indexNow_59 rfl ?_
        exact z_sub [1, 0] rfl (ih _ _ _ e M kk)
      · refine z_icmp_gtF (tgt := 56) E dX10_indexNow_51 rfl c8 ?_
        refine z_iload_n E 1 dX10_indexNow_54 rfl ?_
        have M := M _ (Option.some.inj e).symm
        exact z_iret E M dX10_indexNow_55 rfl rfl rfl rfl (zk (k := k) (a := 0) hk (by decide)) (zk (k := n) (a := 0) hn (by decide))
noncomputable def f_X10_indexNow (h : PH) (a0 : Nat) : Option Int32 :=
  (f_X10_indexNow_L2 FV h a0 (0 : Int32)).bind fun s1 =>
  Sum.elim (fun q3 => some q3) (fun t4 =>
    some t4) s1
theorem b_X10_indexNow {X : PX} (E : z_E X cX10_indexNow RX10 "indexNow" 4 rmX10_indexNow (some .int)) (T0 : z_T0 X) {h : PH} {a0 : Nat} {r : Int32} (e : f_X10_indexNow h a0 = some r) (M : z_M X rmX10_indexNow.cells rmX10_indexNow.slots (.inr (some (.int r))) h) : WP X 4 0 0 0 [(0, .ref a0)] [] h := by
  unfold f_X10_indexNow at e
  refine z_iconst E dX10_indexNow_0 ic_0 ?_
  refine z_istore_n (lv2 := [(1, .int (0 : Int32)), (0, .ref a0)]) E dX10_indexNow_1 (by decide) rfl ?_
  obtain ⟨s1, e2, e⟩ := ob e
  refine z_sub [1, 0] rfl (b_X10_indexNow_L2 E T0 (by decide) (by decide) FV _ _ _ e2 (fun q3 c5 => ?_) (fun t4 c5 => ?_))
  · have e := os_l e c5
    obtain rfl := Option.some.inj e
    exact M
  · have e := os_r e c5
    refine z_iload_n E 0 dX10_indexNow_62 rfl ?_
    obtain rfl := Option.some.inj e
    exact z_iret E M dX10_indexNow_63 rfl rfl rfl rfl (by decide) (by decide)
theorem c_X10_indexNow {l : Launch} (hl : l.stackTraces = false) {h : PH} {a0 : Nat} {r : Int32} (e : f_X10_indexNow h a0 = some r) : CMet l yX10_indexNow (z_W yX10_indexNow cX10_indexNow 4 (some .int)) rmX10_indexNow h [.ref a0] (.inr (some (.int r))) h :=
  z_met hl Y_X10_indexNow (by decide +kernel) (Nat.le_of_ble_eq_true rfl) (fun X hX E T0 M => b_X10_indexNow E T0 e M)
abbrev rmX10_index : Room := { frames := 3, cells := 0, slots := 0, locals := 68 }
noncomputable def f_X10_index (h : PH) (a0 : Nat) : Option (Int32 × PH) :=
  (wr h a0 12 8 (.int (0 : Int32))).bind fun h1 =>
  (gd h1 a0 12).bind fun _ =>
  (f_X10_indexNow h1 a0).bind fun p4 =>
  some (p4, h1)
theorem b_X10_index {X : PX} (E : z_E X cX10_index RX10 "index" 1 rmX10_index (some .int)) (T0 : z_T0 X) {h : PH} {a0 : Nat} {r : (Int32 × PH)} (e : f_X10_index h a0 = some r) (M : z_M X rmX10_index.cells rmX10_index.slots (.inr (some (.int r.1))) r.2) : WP X 1 0 0 0 [(0, .ref a0)] [] h := by
  unfold f_X10_index at e
  refine z_aload_n E 0 dX10_index_0 rfl ?_
  refine z_iconst E dX10_index_1 ic_0 ?_
  obtain ⟨h1, e2, e⟩ := ob e
  refine z_putI E fp_X10_36 (Or.inl rfl) dX10_index_2 e2 ?_
  refine z_aload_n E 0 dX10_index_5 rfl ?_
  obtain ⟨_, e3, e⟩ := ob e
  obtain ⟨p4, e5, e⟩ := ob e
  refine z_kR2 (st := []) (av := [.ref a0]) E 0 0 (z_rV (st := []) (av := []) E Y_X10_indexNow k_X10_127 (ci := 12) rfl (c_X10_indexNow (z_El E) e5) dX10_index_6 e3 rfl rfl (by decide) (by decide) (by decide) (by decide) (Nat.zero_le _)) rfl rfl rfl ?_
  obtain rfl := Option.some.inj e
  exact z_iret E M dX10_index_9 rfl rfl rfl rfl (by decide) (by decide)
theorem c_X10_index {l : Launch} (hl : l.stackTraces = false) {h : PH} {a0 : Nat} {r : (Int32 × PH)} (e : f_X10_index h a0 = some r) : CMet l yX10_index (z_W yX10_index cX10_index 1 (some .int)) rmX10_index h [.ref a0] (.inr (some (.int r.1))) r.2 :=
  z_met hl Y_X10_index (by decide +kernel) (Nat.le_of_ble_eq_true rfl) (fun X hX E T0 M => b_X10_index E T0 e M)
abbrev rmX0_indexByTally : Room := { frames := 3, cells := 0, slots := 0, locals := 66 }
noncomputable def f_X0_indexByTally_L15 : Nat → PH → Nat → Nat → Int32 → Option PH
  | 0, _, _, _, _ => none
  | fu + 1, h, v0, v1, v2 =>
    (rdI h v1 9 0).bind fun x1 =>
    if x1 ≤ v2 then
      some h
    else
      (rdR h v0 4 3).bind fun x4 =>
      (rdR h v0 4 2).bind fun x6 =>
      (alI .int h x6 v2).bind fun x8 =>
      (alI .int h x4 x8).bind fun x10 =>
      (asI .int h x4 x8 (x10 + (1 : Int32))).bind fun h12 =>
      f_X0_indexByTally_L15 fu h12 v0 v1 (v2 + (1 : Int32))
theorem b_X0_indexByTally_L15 {X : PX} (E : z_E X cX0_indexByTally RX0 "indexByTally" 4 rmX0_indexByTally (some .int)) (T0 : z_T0 X) {k n : Nat} (hk : k + 0 ≤ rmX0_indexByTally.cells) (hn : n + 0 ≤ rmX0_indexByTally.slots) {s : PH} : ∀ (fu : Nat) (h : PH) (v0 : Nat) (v1 : Nat) (v2 : Int32) (e : f_X0_indexByTally_L15 fu h v0 v1 v2 = some s) (kk : WP X 4 k n 44 [(0, .ref v0)] [] s), WP X 4 k n 15 [(0, .ref v0), (1, .ref v1), (2, .int v2)] [] h := by
  intro fu
  induction fu with
  | zero => intro h v0 v1 v2 e; exact absurd (show (none : Option PH) = some s from e) (by intro z; cases z)
  | succ fu ih =>
    intro h v0 v1 v2 e kk
    unfold f_X0_indexByTally_L15 at e
    refine z_iload_n E 2 dX0_indexByTally_15 rfl ?_
    refine z_aload_n E 1 dX0_indexByTally_16 rfl ?_
    obtain ⟨x1, e2, e⟩ := ob e
    refine z_getI E fl_X0_50 dX0_indexByTally_17 e2 ?_
    rcases oi e with ⟨c3, e⟩ | ⟨c3, e⟩
    · refine z_icmp_geT (tgt := 44) E dX0_indexByTally_20 rfl c3 ?_
      obtain rfl := Option.some.inj e
      exact z_sub [0] rfl kk
    · refine z_icmp_geF (tgt := 44) E dX0_indexByTally_20 rfl c3 ?_
      refine z_aload_n E 0 dX0_indexByTally_23 rfl ?_
      obtain ⟨x4, e5, e⟩ := ob e
      refine z_getR E fl_X0_21 dX0_indexByTally_24 e5 ?_
      refine z_aload_n E 0 dX0_indexByTally_27 rfl ?_
      obtain ⟨x6, e7, e⟩ := ob e
      refine z_getR E fl_X0_18 dX0_indexByTally_28 e7 ?_
      refine z_iload_n E 2 dX0_indexByTally_31 rfl ?_
      obtain ⟨x8, e9, e⟩ := ob e
      refine z_iald E dX0_indexByTally_32 e9 ?_
      refine z_dup2 E dX0_indexByTally_33 rfl rfl ?_
      obtain ⟨x10, e11, e⟩ := ob e
      refine z_iald E dX0_indexByTally_34 e11 ?_
      refine z_iconst E dX0_indexByTally_35 ic_1 ?_
      refine z_iadd E dX0_indexByTally_36 ?_
      obtain ⟨h12, e13, e⟩ := ob e
      refine z_iast E dX0_indexByTally_37 e13 ?_
      refine z_iinc (v := (v2 + (1 : Int32))) (lv2 := [(2, .int (v2 + (1 : Int32))), (0, .ref v0), (1, .ref v1)]) E 2 dX0_indexByTally_38 rfl (congrArg (v2 + ·) ic_1) (by decide) rfl ?_
      refine z_goto (tgt := 15) E dX0_indexByTally_41 rfl ?_
      exact z_sub [1, 2, 0] rfl (ih _ _ _ _ e kk)
noncomputable def f_X0_indexByTally_L49 : Nat → PH → Nat → Int32 → Int32 → Option ((Int32 × PH) ⊕ Unit)
  | 0, _, _, _, _ => none
  | fu + 1, h, v0, v2, v3 =>
    if v3 ≤ 0 then
      some (Sum.inr ())
    else
      (rdR h v0 4 3).bind fun x2 =>
      (alI .int h x2 v3).bind fun x4 =>
      if (v2 + x4) < v3 then
        f_X0_indexByTally_L49 fu h v0 (v2 + x4) (v3 + (-1 : Int32))
      else
        some (Sum.inl (v3, h))
theorem b_X0_indexByTally_L49 {X : PX} (E : z_E X cX0_indexByTally RX0 "indexByTally" 4 rmX0_indexByTally (some .int)) (T0 : z_T0 X) {k n : Nat} (hk : k + 0 ≤ rmX0_indexByTally.cells) (hn : n + 0 ≤ rmX0_indexByTally.slots) {s : ((Int32 × PH) ⊕ Unit)} : ∀ (fu : Nat) (h : PH) (v0 : Nat) (v2 : Int32) (v3 : Int32) (e : f_X0_indexByTally_L49 fu h v0 v2 v3 = some s) (M : ∀ q, s = Sum.inl q → z_M X rmX0_indexByTally.cells rmX0_indexByTally.slots (.inr (some (.int q.1))) q.2) (kk : ∀ t, s = Sum.inr t → WP X 4 k n 75 [] [] h), WP X 4 k n 49 [(0, .ref v0), (2, .int v2), (3, .int v3)] [] h := by
  intro fu
  induction fu with
  | zero => intro h v0 v2 v3 e; exact absurd (show (none : Option ((Int32 × PH) ⊕ Unit)) = some s from e) (by intro z; cases z)
  | succ fu ih =>
    intro h v0 v2 v3 e M kk
    unfold f_X0_indexByTally_L49 at e
    refine z_iload_n E 2 dX0_indexByTally_49 rfl ?_
    rcases oi e with ⟨c1, e⟩ | ⟨c1, e⟩
    · refine z_if_leT (tgt := 75) E dX0_indexByTally_50 rfl c1 ?_
      obtain rfl := Option.some.inj e
      exact z_sub [] rfl (kk _ rfl)
    · refine z_if_leF (tgt := 75) E dX0_indexByTally_50 rfl c1 ?_
      refine z_iload_n E 1 dX0_indexByTally_53 rfl ?_
      refine z_aload_n E 0 dX0_indexByTally_54 rfl ?_
      obtain ⟨x2, e3, e⟩ := ob e
      refine z_getR E fl_X0_21 dX0_indexByTally_55 e3 ?_
      refine z_iload_n E 2 dX0_indexByTally_58 rfl ?_
      obtain ⟨x4, e5, e⟩ := ob e
      refine z_iald E dX0_indexByTally_59 e5 ?_
      refine z_iadd E dX0_indexByTally_60 ?_
      refine z_istore_n (lv2 := [(2, .int (v2 + x4)), (0, .ref v0), (3, .int v3)]) E dX0_indexByTally_61 (by decide) rfl ?_
      refine z_iload_n E 0 dX0_indexByTally_62 rfl ?_
      refine z_iload_n E 2 dX0_indexByTally_63 rfl ?_
      rcases oi e with ⟨c6, e⟩ | ⟨c6, e⟩
      · refine z_icmp_ltT (tgt := 69) E dX0_indexByTally_64 rfl c6 ?_
        refine z_iinc (v := (v3 + (-1 : Int32))) (lv2 := [(3, .int (v3 + (-1 : Int32))), (2, .int (v2 + x4)), (0, .ref v0)]) E 2 dX0_indexByTally_69 rfl (congrArg (v3 + ·) ic_m1) (by decide) rfl ?_
        refine z_goto (tgt := 49) E dX0_indexByTally_72 rfl ?_
        exact z_sub [2, 1, 0] rfl (ih _ _ _ _ e M kk)
      · refine z_icmp_ltF (tgt := 69) E dX0_indexByTally_64 rfl c6 ?_
        refine z_iload_n E 2 dX0_indexByTally_67 rfl ?_
        have M := M _ (Option.some.inj e).symm
        exact z_iret E M dX0_indexByTally_68 rfl rfl rfl rfl (zk (k := k) (a := 0) hk (by decide)) (zk (k := n) (a := 0) hn (by decide))
noncomputable def f_X0_indexByTally (h : PH) (a0 : Nat) (a1 : Nat) : Option (Int32 × PH) :=
  (gd h a0 4).bind fun _ =>
  (f_X0_fillCiting h a0 a1).bind fun p2 =>
  (rdR p2 a0 4 3).bind fun x4 =>
  (f_J7_fill_53178 p2 x4 (0 : Int32)).bind fun p6 =>
  (f_X0_indexByTally_L15 FV p6 a0 a1 (0 : Int32)).bind fun s8 =>
  (f_X0_indexByTally_L49 FV s8 a0 (0 : Int32) (9 : Int32)).bind fun s10 =>
  Sum.elim (fun q12 => some q12) (fun t13 =>
    some ((0 : Int32), s8)) s10
theorem b_X0_indexByTally {X : PX} (E : z_E X cX0_indexByTally RX0 "indexByTally" 4 rmX0_indexByTally (some .int)) (T0 : z_T0 X) {h : PH} {a0 : Nat} {a1 : Nat} {r : (Int32 × PH)} (e : f_X0_indexByTally h a0 a1 = some r) (M : z_M X rmX0_indexByTally.cells rmX0_indexByTally.slots (.inr (some (.int r.1))) r.2) : WP X 4 0 0 0 [(0, .ref a0), (1, .ref a1)] [] h := by
  unfold f_X0_indexByTally at e
  refine z_aload_n E 0 dX0_indexByTally_0 rfl ?_
  refine z_aload_n E 1 dX0_indexByTally_1 rfl ?_
  obtain ⟨_, e1, e⟩ := ob e
  obtain ⟨p2, e3, e⟩ := ob e
  refine z_kV2 (st := []) (av := [.ref a0, .ref a1]) E 0 0 (z_rV (st := []) (av := [.ref a1]) E Y_X0_fillCiting k_X0_80 (ci := 4) rfl (c_X0_fillCiting (z_El E) e3) dX0_indexByTally_2 e1 rfl rfl (by decide) (by decide) (by decide) (by decide) (Nat.zero_le _)) rfl rfl rfl ?_
  refine z_aload_n E 0 dX0_indexByTally_5 rfl ?_
  obtain ⟨x4, e5, e⟩ := ob e
  refine z_getR E fl_X0_21 dX0_indexByTally_6 e5 ?_
  refine z_iconst E dX0_indexByTally_9 ic_0 ?_
  obtain ⟨p6, e7, e⟩ := ob e
  refine z_kV2 (st := []) (av := [.ref x4, .int (0 : Int32)]) E 0 0 (z_rS (st := []) (av := [.ref x4, .int (0 : Int32)]) E Y_J7_fill_53178 k_X0_83 (c_J7_fill_53178 (z_El E) e7) dX0_indexByTally_10 rfl rfl (by decide) (by decide) (by decide) (by decide) (Nat.zero_le _)) rfl rfl rfl ?_
  refine z_iconst E dX0_indexByTally_13 ic_0 ?_
  refine z_istore_n (lv2 := [(2, .int (0 : Int32)), (0, .ref a0), (1, .ref a1)]) E dX0_indexByTally_14 (by decide) rfl ?_
  obtain ⟨s8, e9, e⟩ := ob e
  refine z_sub [1, 2, 0] rfl (b_X0_indexByTally_L15 E T0 (by decide) (by decide) FV _ _ _ _ e9 ?_)
  refine z_iconst E dX0_indexByTally_44 ic_0 ?_
  refine z_istore_n (lv2 := [(2, .int (0 : Int32)), (0, .ref a0)]) E dX0_indexByTally_45 (by decide) rfl ?_
  refine z_bipush E dX0_indexByTally_46 bp_9 ?_
  refine z_istore_n (lv2 := [(3, .int (9 : Int32)), (2, .int (0 : Int32)), (0, .ref a0)]) E dX0_indexByTally_48 (by decide) rfl ?_
  obtain ⟨s10, e11, e⟩ := ob e
  refine z_sub [2, 1, 0] rfl (b_X0_indexByTally_L49 E T0 (by decide) (by decide) FV _ _ _ _ e11 (fun q12 c14 => ?_) (fun t13 c14 => ?_))
  · have e := os_l e c14
    obtain rfl := Option.some.inj e
    exact M
  · have e := os_r e c14
    refine z_iconst E dX0_indexByTally_75 ic_0 ?_
    obtain rfl := Option.some.inj e
    exact z_iret E M dX0_indexByTally_76 rfl rfl rfl rfl (by decide) (by decide)
theorem c_X0_indexByTally {l : Launch} (hl : l.stackTraces = false) {h : PH} {a0 : Nat} {a1 : Nat} {r : (Int32 × PH)} (e : f_X0_indexByTally h a0 a1 = some r) : CMet l yX0_indexByTally (z_W yX0_indexByTally cX0_indexByTally 4 (some .int)) rmX0_indexByTally h [.ref a0, .ref a1] (.inr (some (.int r.1))) r.2 :=
  z_met hl Y_X0_indexByTally (by decide +kernel) (Nat.le_of_ble_eq_true rfl) (fun X hX E T0 M => b_X0_indexByTally E T0 e M)
abbrev rmX9_indexByCounts : Room := { frames := 4, cells := 0, slots := 0, locals := 89 }
noncomputable def f_X9_indexByCounts (h : PH) (a0 : Nat) : Option (Int32 × PH) :=
  (rdR h a0 11 4).bind fun x1 =>
  (rdR h a0 11 0).bind fun x3 =>
  (gd h x1 4).bind fun _ =>
  (f_X0_indexByTally h x1 x3).bind fun p6 =>
  some (p6.1, p6.2)
theorem b_X9_indexByCounts {X : PX} (E : z_E X cX9_indexByCounts RX9 "indexByCounts" 1 rmX9_indexByCounts (some .int)) (T0 : z_T0 X) {h : PH} {a0 : Nat} {r : (Int32 × PH)} (e : f_X9_indexByCounts h a0 = some r) (M : z_M X rmX9_indexByCounts.cells rmX9_indexByCounts.slots (.inr (some (.int r.1))) r.2) : WP X 1 0 0 0 [(0, .ref a0)] [] h := by
  unfold f_X9_indexByCounts at e
  refine z_aload_n E 0 dX9_indexByCounts_0 rfl ?_
  obtain ⟨x1, e2, e⟩ := ob e
  refine z_getR E fl_X9_36 dX9_indexByCounts_1 e2 ?_
  refine z_aload_n E 0 dX9_indexByCounts_4 rfl ?_
  obtain ⟨x3, e4, e⟩ := ob e
  refine z_getR E fl_X9_12 dX9_indexByCounts_5 e4 ?_
  obtain ⟨_, e5, e⟩ := ob e
  obtain ⟨p6, e7, e⟩ := ob e
  refine z_kR2 (st := []) (av := [.ref x1, .ref x3]) E 0 0 (z_rV (st := []) (av := [.ref x3]) E Y_X0_indexByTally k_X9_113 (ci := 4) rfl (c_X0_indexByTally (z_El E) e7) dX9_indexByCounts_8 e5 rfl rfl (by decide) (by decide) (by decide) (by decide) (Nat.zero_le _)) rfl rfl rfl ?_
  obtain rfl := Option.some.inj e
  exact z_iret E M dX9_indexByCounts_11 rfl rfl rfl rfl (by decide) (by decide)
theorem c_X9_indexByCounts {l : Launch} (hl : l.stackTraces = false) {h : PH} {a0 : Nat} {r : (Int32 × PH)} (e : f_X9_indexByCounts h a0 = some r) : CMet l yX9_indexByCounts (z_W yX9_indexByCounts cX9_indexByCounts 1 (some .int)) rmX9_indexByCounts h [.ref a0] (.inr (some (.int r.1))) r.2 :=
  z_met hl Y_X9_indexByCounts (by decide +kernel) (Nat.le_of_ble_eq_true rfl) (fun X hX E T0 M => b_X9_indexByCounts E T0 e M)
abbrev rmX10_indexByCounts : Room := { frames := 3, cells := 0, slots := 0, locals := 68 }
noncomputable def f_X10_indexByCounts (h : PH) (a0 : Nat) : Option (Int32 × PH) :=
  (wr h a0 12 8 (.int (0 : Int32))).bind fun h1 =>
  (gd h1 a0 12).bind fun _ =>
  (f_X10_indexNow h1 a0).bind fun p4 =>
  some (p4, h1)
theorem b_X10_indexByCounts {X : PX} (E : z_E X cX10_indexByCounts RX10 "indexByCounts" 1 rmX10_indexByCounts (some .int)) (T0 : z_T0 X) {h : PH} {a0 : Nat} {r : (Int32 × PH)} (e : f_X10_indexByCounts h a0 = some r) (M : z_M X rmX10_indexByCounts.cells rmX10_indexByCounts.slots (.inr (some (.int r.1))) r.2) : WP X 1 0 0 0 [(0, .ref a0)] [] h := by
  unfold f_X10_indexByCounts at e
  refine z_aload_n E 0 dX10_indexByCounts_0 rfl ?_
  refine z_iconst E dX10_indexByCounts_1 ic_0 ?_
  obtain ⟨h1, e2, e⟩ := ob e
  refine z_putI E fp_X10_36 (Or.inl rfl) dX10_indexByCounts_2 e2 ?_
  refine z_aload_n E 0 dX10_indexByCounts_5 rfl ?_
  obtain ⟨_, e3, e⟩ := ob e
  obtain ⟨p4, e5, e⟩ := ob e
  refine z_kR2 (st := []) (av := [.ref a0]) E 0 0 (z_rV (st := []) (av := []) E Y_X10_indexNow k_X10_127 (ci := 12) rfl (c_X10_indexNow (z_El E) e5) dX10_indexByCounts_6 e3 rfl rfl (by decide) (by decide) (by decide) (by decide) (Nat.zero_le _)) rfl rfl rfl ?_
  obtain rfl := Option.some.inj e
  exact z_iret E M dX10_indexByCounts_9 rfl rfl rfl rfl (by decide) (by decide)
theorem c_X10_indexByCounts {l : Launch} (hl : l.stackTraces = false) {h : PH} {a0 : Nat} {r : (Int32 × PH)} (e : f_X10_indexByCounts h a0 = some r) : CMet l yX10_indexByCounts (z_W yX10_indexByCounts cX10_indexByCounts 1 (some .int)) rmX10_indexByCounts h [.ref a0] (.inr (some (.int r.1))) r.2 :=
  z_met hl Y_X10_indexByCounts (by decide +kernel) (Nat.le_of_ble_eq_true rfl) (fun X hX E T0 M => b_X10_indexByCounts E T0 e M)
abbrev rmX0_noteAt : Room := { frames := 4, cells := 0, slots := 0, locals := 89 }
noncomputable def f_X0_noteAt (h : PH) (a0 : Nat) (a1 : Nat) (a2 : Int32) : Option (Int32 × PH) :=
  (gd h a0 4).bind fun _ =>
  (f_X0_sortNotes h a0 a1).bind fun p2 =>
  (rdR p2 a0 4 1).bind fun x4 =>
  (alI .int p2 x4 a2).bind fun x6 =>
  some (x6, p2)
theorem b_X0_noteAt {X : PX} (E : z_E X cX0_noteAt RX0 "noteAt" 3 rmX0_noteAt (some .int)) (T0 : z_T0 X) {h : PH} {a0 : Nat} {a1 : Nat} {a2 : Int32} {r : (Int32 × PH)} (e : f_X0_noteAt h a0 a1 a2 = some r) (M : z_M X rmX0_noteAt.cells rmX0_noteAt.slots (.inr (some (.int r.1))) r.2) : WP X 3 0 0 0 [(0, .ref a0), (1, .ref a1), (2, .int a2)] [] h := by
  unfold f_X0_noteAt at e
  refine z_aload_n E 0 dX0_noteAt_0 rfl ?_
  refine z_aload_n E 1 dX0_noteAt_1 rfl ?_
  obtain ⟨_, e1, e⟩ := ob e
  obtain ⟨p2, e3, e⟩ := ob e
  refine z_kV2 (st := []) (av := [.ref a0, .ref a1]) E 0 0 (z_rV (st := []) (av := [.ref a1]) E Y_X0_sortNotes k_X0_77 (ci := 4) rfl (c_X0_sortNotes (z_El E) e3) dX0_noteAt_2 e1 rfl rfl (by decide) (by decide) (by decide) (by decide) (Nat.zero_le _)) rfl rfl rfl ?_
  refine z_aload_n E 0 dX0_noteAt_5 rfl ?_
  obtain ⟨x4, e5, e⟩ := ob e
  refine z_getR E fl_X0_15 dX0_noteAt_6 e5 ?_
  refine z_iload_n E 2 dX0_noteAt_9 rfl ?_
  obtain ⟨x6, e7, e⟩ := ob e
  refine z_iald E dX0_noteAt_10 e7 ?_
  obtain rfl := Option.some.inj e
  exact z_iret E M dX0_noteAt_11 rfl rfl rfl rfl (by decide) (by decide)
theorem c_X0_noteAt {l : Launch} (hl : l.stackTraces = false) {h : PH} {a0 : Nat} {a1 : Nat} {a2 : Int32} {r : (Int32 × PH)} (e : f_X0_noteAt h a0 a1 a2 = some r) : CMet l yX0_noteAt (z_W yX0_noteAt cX0_noteAt 3 (some .int)) rmX0_noteAt h [.ref a0, .ref a1, .int a2] (.inr (some (.int r.1))) r.2 :=
  z_met hl Y_X0_noteAt (by decide +kernel) (Nat.le_of_ble_eq_true rfl) (fun X hX E T0 M => b_X0_noteAt E T0 e M)
abbrev rmX9_noteByCitations : Room := { frames := 6, cells := 1, slots := 6, locals := 111 }
noncomputable def f_X9_noteByCitations (h : PH) (a0 : Nat) (a1 : Int32) : Option ((String ⊕ Int32) × PH) :=
  (rdR h a0 11 0).bind fun x1 =>
  (gd h x1 9).bind fun _ =>
  (f_X7_hasNote h x1 a1).bind fun p4 =>
  if p4 = true then
    (rdR h a0 11 4).bind fun x7 =>
    (rdR h a0 11 0).bind fun x9 =>
    (gd h x7 4).bind fun _ =>
    (f_X0_noteAt h x7 x9 a1).bind fun p12 =>
    some ((Sum.inr p12.1), p12.2)
  else
    some ((Sum.inl "java/util/NoSuchElementException"), h)
theorem b_X9_noteByCitations {X : PX} (E : z_E X cX9_noteByCitations RX9 "noteByCitations" 2 rmX9_noteByCitations (some .int)) (T0 : z_T0 X) {h : PH} {a0 : Nat} {a1 : Int32} {r : ((String ⊕ Int32) × PH)} (e : f_X9_noteByCitations h a0 a1 = some r) (M : z_M X rmX9_noteByCitations.cells rmX9_noteByCitations.slots (zoI r.1) r.2) : WP X 2 0 0 0 [(0, .ref a0), (1, .int a1)] [] h := by
  unfold f_X9_noteByCitations at e
  refine z_aload_n E 0 dX9_noteByCitations_0 rfl ?_
  obtain ⟨x1, e2, e⟩ := ob e
  refine z_getR E fl_X9_12 dX9_noteByCitations_1 e2 ?_
  refine z_iload_n E 1 dX9_noteByCitations_4 rfl ?_
  obtain ⟨_, e3, e⟩ := ob e
  obtain ⟨p4, e5, e⟩ := ob e
  refine z_kR2 (st := []) (av := [.ref x1, .int a1]) E 0 0 (z_rV (st := []) (av := [.int a1]) E Y_X7_hasNote k_X9_116 (ci := 9) rfl (c_X7_hasNote (z_El E) e5) dX9_noteByCitations_5 e3 rfl rfl (by decide) (by decide) (by decide) (by decide) (Nat.zero_le _)) rfl rfl rfl ?_
  rcases oi e with ⟨c6, e⟩ | ⟨c6, e⟩
  · refine z_if_neT (tgt := 21) E dX9_noteByCitations_8 rfl (zb_t c6) ?_
    refine z_aload_n E 0 dX9_noteByCitations_21 rfl ?_
    obtain ⟨x7, e8, e⟩ := ob e
    refine z_getR E fl_X9_36 dX9_noteByCitations_22 e8 ?_
    refine z_aload_n E 0 dX9_noteByCitations_25 rfl ?_
    obtain ⟨x9, e10, e⟩ := ob e
    refine z_getR E fl_X9_12 dX9_noteByCitations_26 e10 ?_
    refine z_iload_n E 1 dX9_noteByCitations_29 rfl ?_
    obtain ⟨_, e11, e⟩ := ob e
    obtain ⟨p12, e13, e⟩ := ob e
    refine z_kR2 (st := []) (av := [.ref x7, .ref x9, .int a1]) E 0 0 (z_rV (st := []) (av := [.ref x9, .int a1]) E Y_X0_noteAt k_X9_127 (ci := 4) rfl (c_X0_noteAt (z_El E) e13) dX9_noteByCitations_30 e11 rfl rfl (by decide) (by decide) (by decide) (by decide) (Nat.zero_le _)) rfl rfl rfl ?_
    obtain rfl := Option.some.inj e
    exact z_iret E M dX9_noteByCitations_33 rfl rfl rfl rfl (by decide) (by decide)
  · refine z_if_neF (tgt := 21) E dX9_noteByCitations_8 rfl (zb_nt c6) ?_
    obtain rfl := Option.some.inj e
    exact z_throw E 6 th_X9_120_122_124 T0 M dX9_noteByCitations_11 dX9_noteByCitations_14 (Or.inl ⟨dX9_noteByCitations_15, rfl⟩) dX9_noteByCitations_17 dX9_noteByCitations_20 rfl rfl (by decide) (Nat.le_of_ble_eq_true rfl) (by decide) (by decide) (by decide) (by decide)
theorem c_X9_noteByCitations {l : Launch} (hl : l.stackTraces = false) {h : PH} {a0 : Nat} {a1 : Int32} {r : ((String ⊕ Int32) × PH)} (e : f_X9_noteByCitations h a0 a1 = some r) : CMet l yX9_noteByCitations (z_W yX9_noteByCitations cX9_noteByCitations 2 (some .int)) rmX9_noteByCitations h [.ref a0, .int a1] (zoI r.1) r.2 :=
  z_met hl Y_X9_noteByCitations (by decide +kernel) (Nat.le_of_ble_eq_true rfl) (fun X hX E T0 M => b_X9_noteByCitations E T0 e M)
abbrev rmL_noteByCitations : Room := { frames := 7, cells := 1, slots := 6, locals := 132 }
noncomputable def f_L_noteByCitations (h : PH) (a0 : Nat) (a1 : Int32) (a2 : Nat) : Option (Int32 × PH) :=
  (gd h a0 11).bind fun _ =>
  (f_X9_noteByCitations h a0 a1).bind fun p2 =>
  Sum.elim
    (fun E4 =>
    if E4 = "java/util/NoSuchElementException" then
      some ((1 : Int32), p2.2)
    else none)
    (fun y6 =>
    (asL p2.2 a2 (0 : Int32) y6.toInt64).bind fun h8 =>
    some ((0 : Int32), h8)) p2.1
theorem b_L_noteByCitations {X : PX} (E : z_E X cL_noteByCitations RL "noteByCitations" 4 rmL_noteByCitations (some .int)) (TT : z_TT X [(0, 9, 12, 20)]) {h : PH} {a0 : Nat} {a1 : Int32} {a2 : Nat} {r : (Int32 × PH)} (e : f_L_noteByCitations h a0 a1 a2 = some r) (M : z_M X rmL_noteByCitations.cells rmL_noteByCitations.slots (.inr (some (.int r.1))) r.2) : WP X 4 0 0 0 [(0, .ref a0), (1, .int a1), (2, .ref a2)] [] h := by
  unfold f_L_noteByCitations at e
  refine z_aload_n E 2 dL_noteByCitations_0 rfl ?_
  refine z_iconst E dL_noteByCitations_1 ic_0 ?_
  refine z_aload_n E 0 dL_noteByCitations_2 rfl ?_
  refine z_iload_n E 1 dL_noteByCitations_3 rfl ?_
  obtain ⟨_, e1, e⟩ := ob e
  obtain ⟨p2, e3, e⟩ := ob e
  rcases os e with ⟨E4, c5, e⟩ | ⟨y6, c5, e⟩
  · rcases oi e with ⟨c7, e⟩ | ⟨c7, e⟩
    · subst c7
      refine z_kX2 (st := [.int (0 : Int32), .ref a2]) (av := [.ref a0, .int a1]) E 1 6 (z_rV (st := [.int (0 : Int32), .ref a2]) (av := [.int a1]) E Y_X9_noteByCitations k_L_49 (ci := 11) rfl (zc_o (c_X9_noteByCitations (z_El E) e3) (by rw [c5]; rfl)) dL_noteByCitations_4 e1 rfl rfl (by decide) (by decide) (by decide) (by decide) (Nat.le_of_ble_eq_true rfl)) rfl rfl rfl ?_
      refine z_catch (lv2 := [(0, .ref a0), (1, .int a1), (2, .ref a2)]) E TT 0 (q := (0, 9, 12, 20)) rfl rfl (by decide) cl_L_20 kb_NoSuchElementException (fun z hz => nomatch hz) (Or.inl ⟨_, dL_noteByCitations_12, rfl, rfl⟩) (by decide) rfl ?_
      refine z_iconst E dL_noteByCitations_13 ic_1 ?_
      obtain rfl := Option.some.inj e
      exact z_iret E M dL_noteByCitations_14 rfl rfl rfl rfl (by decide) (by decide)
    cases e
  · refine z_kR2 (st := [.int (0 : Int32), .ref a2]) (av := [.ref a0, .int a1]) E 1 6 (z_rV (st := [.int (0 : Int32), .ref a2]) (av := [.int a1]) E Y_X9_noteByCitations k_L_49 (ci := 11) rfl (zc_o (c_X9_noteByCitations (z_El E) e3) (by rw [c5]; rfl)) dL_noteByCitations_4 e1 rfl rfl (by decide) (by decide) (by decide) (by decide) (Nat.le_of_ble_eq_true rfl)) rfl rfl rfl ?_
    refine z_i2l (v := y6.toInt64) E dL_noteByCitations_7 rfl ?_
    obtain ⟨h8, e9, e⟩ := ob e
    refine z_last E dL_noteByCitations_8 e9 ?_
    refine z_goto (tgt := 15) E dL_noteByCitations_9 rfl ?_
    refine z_iconst E dL_noteByCitations_15 ic_0 ?_
    obtain rfl := Option.some.inj e
    exact z_iret E M dL_noteByCitations_16 rfl rfl rfl rfl (by decide) (by decide)
theorem c_L_noteByCitations {l : Launch} (hl : l.stackTraces = false) {h : PH} {a0 : Nat} {a1 : Int32} {a2 : Nat} {r : (Int32 × PH)} (e : f_L_noteByCitations h a0 a1 a2 = some r) : CMet l yL_noteByCitations (z_WH yL_noteByCitations cL_noteByCitations 4 (some .int) [(0, 9, 12, 20)]) rmL_noteByCitations h [.ref a0, .int a1, .ref a2] (.inr (some (.int r.1))) r.2 :=
  z_metH hl Y_L_noteByCitations (by decide +kernel) (Nat.le_of_ble_eq_true rfl) (fun X hX E T0 M => b_L_noteByCitations E T0 e M)
abbrev rmX10_isAhead : Room := { frames := 2, cells := 0, slots := 0, locals := 45 }
noncomputable def f_X10_isAhead (h : PH) (a0 : Nat) (a1 : Int32) (a2 : Int32) : Option Bool :=
  (gd h a0 12).bind fun _ =>
  (f_X10_cited h a0 a1).bind fun p2 =>
  (gd h a0 12).bind fun _ =>
  (f_X10_cited h a0 a2).bind fun p5 =>
  if p2 = p5 then
    (gd h a0 12).bind fun _ =>
    (f_X10_of h a0 a1 (1 : Int32)).bind fun p9 =>
    (gd h a0 12).bind fun _ =>
    (f_X10_of h a0 a2 (1 : Int32)).bind fun p12 =>
    if p9 = p12 then
      if a2 ≤ a1 then
        some false
      else
        some true
    else
      (gd h a0 12).bind fun _ =>
      (f_X10_of h a0 a1 (1 : Int32)).bind fun p17 =>
      (gd h a0 12).bind fun _ =>
      (f_X10_of h a0 a2 (1 : Int32)).bind fun p20 =>
      if p17 ≤ p20 then
        some false
      else
        some true
  else
    (gd h a0 12).bind fun _ =>
    (f_X10_cited h a0 a1).bind fun p24 =>
    (gd h a0 12).bind fun _ =>
    (f_X10_cited h a0 a2).bind fun p27 =>
    if p24 ≤ p27 then
      some false
    else
      some true
theorem b_X10_isAhead {X : PX} (E : z_E X cX10_isAhead RX10 "isAhead" 3 rmX10_isAhead (some .boolean)) (T0 : z_T0 X) {h : PH} {a0 : Nat} {a1 : Int32} {a2 : Int32} {r : Bool} (e : f_X10_isAhead h a0 a1 a2 = some r) (M : z_M X rmX10_isAhead.cells rmX10_isAhead.slots (.inr (some (.int (zb r)))) h) : WP X 3 0 0 0 [(0, .ref a0), (1, .int a1), (2, .int a2)] [] h := by
  unfold f_X10_isAhead at e
  refine z_aload_n E 0 dX10_isAhead_0 rfl ?_
  refine z_iload_n E 1 dX10_isAhead_1 rfl ?_
  obtain ⟨_, e1, e⟩ := ob e
  obtain ⟨p2, e3, e⟩ := ob e
  refine z_kR2 (st := []) (av := [.ref a0, .int a1]) E 0 0 (z_rV (st := []) (av := [.int a1]) E Y_X10_cited k_X10_114 (ci := 12) rfl (c_X10_cited (z_El E) e3) dX10_isAhead_2 e1 rfl rfl (by decide) (by decide) (by decide) (by decide) (Nat.zero_le _)) rfl rfl rfl ?_
  refine z_aload_n E 0 dX10_isAhead_5 rfl ?_
  refine z_iload_n E 2 dX10_isAhead_6 rfl ?_
  obtain ⟨_, e4, e⟩ := ob e
  obtain ⟨p5, e6, e⟩ := ob e
  refine z_kR2 (st := [.int p2]) (av := [.ref a0, .int a2]) E 0 0 (z_rV (st := [.int p2]) (av := [.int a2]) E Y_X10_cited k_X10_114 (ci := 12) rfl (c_X10_cited (z_El E) e6) dX10_isAhead_7 e4 rfl rfl (by decide) (by decide) (by decide) (by decide) (Nat.le_of_ble_eq_true rfl)) rfl rfl rfl ?_
  rcases oi e with ⟨c7, e⟩ | ⟨c7, e⟩
  · refine z_icmp_eqT (tgt := 32) E dX10_isAhead_10 rfl c7 ?_
    refine z_aload_n E 0 dX10_isAhead_32 rfl ?_
    refine z_iload_n E 1 dX10_isAhead_33 rfl ?_
    refine z_iconst E dX10_isAhead_34 ic_1 ?_
    obtain ⟨_, e8, e⟩ := ob e
    obtain ⟨p9, e10, e⟩ := ob e
    refine z_kR2 (st := []) (av := [.ref a0, .int a1, .int (1 : Int32)]) E 0 0 (z_rV (st := []) (av := [.int a1, .int (1 : Int32)]) E Y_X10_of k_X10_73 (ci := 12) rfl (c_X10_of (z_El E) e10) dX10_isAhead_35 e8 rfl rfl (by decide) (by decide) (by decide) (by decide) (Nat.zero_le _)) rfl rfl rfl ?_
    refine z_aload_n E 0 dX10_isAhead_38 rfl ?_
    refine z_iload_n E 2 dX10_isAhead_39 rfl ?_
    refine z_iconst E dX10_isAhead_40 ic_1 ?_
    obtain ⟨_, e11, e⟩ := ob e
    obtain ⟨p12, e13, e⟩ := ob e
    refine z_kR2 (st := [.int p9]) (av := [.ref a0, .int a2, .int (1 : Int32)]) E 0 0 (z_rV (st := [.int p9]) (av := [.int a2, .int (1 : Int32)]) E Y_X10_of k_X10_73 (ci := 12) rfl (c_X10_of (z_El E) e13) dX10_isAhead_41 e11 rfl rfl (by decide) (by decide) (by decide) (by decide) (Nat.le_of_ble_eq_true rfl)) rfl rfl rfl ?_
    rcases oi e with ⟨c14, e⟩ | ⟨c14, e⟩
    · refine z_icmp_eqT (tgt := 70) E dX10_isAhead_44 rfl c14 ?_
      refine z_iload_n E 1 dX10_isAhead_70 rfl ?_
      refine z_iload_n E 2 dX10_isAhead_71 rfl ?_
      rcases oi e with ⟨c15, e⟩ | ⟨c15, e⟩
      · refine z_icmp_geT (tgt := 79) E dX10_isAhead_72 rfl c15 ?_
        refine z_iconst E dX10_isAhead_79 ic_0 ?_
        obtain rfl := Option.some.inj e
        exact z_iret E M dX10_isAhead_80 rfl rfl rfl rfl (by decide) (by decide)
      · refine z_icmp_geF (tgt := 79) E dX10_isAhead_72 rfl c15 ?_
        refine z_iconst E dX10_isAhead_75 ic_1 ?_
        refine z_goto (tgt := 80) E dX10_isAhead_76 rfl ?_
        obtain rfl := Option.some.inj e
        exact z_iret E M dX10_isAhead_80 rfl rfl rfl rfl (by decide) (by decide)
    · refine z_icmp_eqF (tgt := 70) E dX10_isAhead_44 rfl c14 ?_
      refine z_aload_n E 0 dX10_isAhead_47 rfl ?_
      refine z_iload_n E 1 dX10_isAhead_48 rfl ?_
      refine z_iconst E dX10_isAhead_49 ic_1 ?_
      obtain ⟨_, e16, e⟩ := ob e
      obtain ⟨p17, e18, e⟩ := ob e
      refine z_kR2 (st := []) (av := [.ref a0, .int a1, .int (1 : Int32)]) E 0 0 (z_rV (st := []) (av := [.int a1, .int (1 : Int32)]) E Y_X10_of k_X10_73 (ci := 12) rfl (c_X10_of (z_El E) e18) dX10_isAhead_50 e16 rfl rfl (by decide) (by decide) (by decide) (by decide) (Nat.zero_le _)) rfl rfl rfl ?_
      refine z_aload_n E 0 dX10_isAhead_53 rfl ?_
      refine z_iload_n E 2 dX10_isAhead_54 rfl ?_
      refine z_iconst E dX10_isAhead_55 ic_1 ?_
      obtain ⟨_, e19, e⟩ := ob e
      obtain ⟨p20, e21, e⟩ := ob e
      refine z_kR2 (st := [.int p17]) (av := [.ref a0, .int a2, .int (1 : Int32)]) E 0 0 (z_rV (st := [.int p17]) (av := [.int a2, .int (1 : Int32)]) E Y_X10_of k_X10_73 (ci := 12) rfl (c_X10_of (z_El E) e21) dX10_isAhead_56 e19 rfl rfl (by decide) (by decide) (by decide) (by decide) (Nat.le_of_ble_eq_true rfl)) rfl rfl rfl ?_
      rcases oi e with ⟨c22, e⟩ | ⟨c22, e⟩
      · refine z_icmp_leT (tgt := 66) E dX10_isAhead_59 rfl c22 ?_
        refine z_iconst E dX10_isAhead_66 ic_0 ?_
        refine z_goto (tgt := 80) E dX10_isAhead_67 rfl ?_
        obtain rfl := Option.some.inj e
        exact z_iret E M dX10_isAhead_80 rfl rfl rfl rfl (by decide) (by decide)
      · refine z_icmp_leF (tgt := 66) E dX10_isAhead_59 rfl c22 ?_
        refine z_iconst E dX10_isAhead_62 ic_1 ?_
        refine z_goto (tgt := 80) E dX10_isAhead_63 rfl ?_
        obtain rfl := Option.some.inj e
        exact z_iret E M dX10_isAhead_80 rfl rfl rfl rfl (by decide) (by decide)
  · refine z_icmp_eqF (tgt := 32) E dX10_isAhead_10 rfl c7 ?_
    refine z_aload_n E 0 dX10_isAhead_13 rfl ?_
    refine z_iload_n E 1 dX10_isAhead_14 rfl ?_
    obtain ⟨_, e23, e⟩ := ob e
    obtain ⟨p24, e25, e⟩ := ob e
    refine z_kR2 (st := []) (av := [.ref a0, .int a1]) E 0 0 (z_rV (st := []) (av := [.int a1]) E Y_X10_cited k_X10_114 (ci := 12) rfl (c_X10_cited (z_El E) e25) dX10_isAhead_15 e23 rfl rfl (by decide) (by decide) (by decide) (by decide) (Nat.zero_le _)) rfl rfl rfl ?_
    refine z_aload_n E 0 dX10_isAhead_18 rfl ?_
    refine z_iload_n E 2 dX10_isAhead_19 rfl ?_
    obtain ⟨_, e26, e⟩ := ob e
    obtain ⟨p27, e28, e⟩ := ob e
    refine z_kR2 (st := [.int p24]) (av := [.ref a0, .int a2]) E 0 0 (z_rV (st := [.int p24]) (av := [.int a2]) E Y_X10_cited k_X10_114 (ci := 12) rfl (c_X10_cited (z_El E) e28) dX10_isAhead_20 e26 rfl rfl (by decide) (by decide) (by decide) (by decide) (Nat.le_of_ble_eq_true rfl)) rfl rfl rfl ?_
    rcases oi e with ⟨c29, e⟩ | ⟨c29, e⟩
    · refine z_icmp_leT (tgt := 30) E dX10_isAhead_23 rfl c29 ?_
      refine z_iconst E dX10_isAhead_30 ic_0 ?_
      obtain rfl := Option.some.inj e
      exact z_iret E M dX10_isAhead_31 rfl rfl rfl rfl (by decide) (by decide)
    · refine z_icmp_leF (tgt := 30) E dX10_isAhead_23 rfl c29 ?_
      refine z_iconst E dX10_isAhead_26 ic_1 ?_
      refine z_goto (tgt := 31) E dX10_isAhead_27 rfl ?_
      obtain rfl := Option.some.inj e
      exact z_iret E M dX10_isAhead_31 rfl rfl rfl rfl (by decide) (by decide)
theorem c_X10_isAhead {l : Launch} (hl : l.stackTraces = false) {h : PH} {a0 : Nat} {a1 : Int32} {a2 : Int32} {r : Bool} (e : f_X10_isAhead h a0 a1 a2 = some r) : CMet l yX10_isAhead (z_W yX10_isAhead cX10_isAhead 3 (some .boolean)) rmX10_isAhead h [.ref a0, .int a1, .int a2] (.inr (some (.int (zb r)))) h :=
  z_met hl Y_X10_isAhead (by decide +kernel) (Nat.le_of_ble_eq_true rfl) (fun X hX E T0 M => b_X10_isAhead E T0 e M)
abbrev rmX10_noteByCitations : Room := { frames := 3, cells := 0, slots := 0, locals := 67 }
noncomputable def f_X10_noteByCitations_L17 : Nat → PH → Nat → Int32 → Int32 → Int32 → Int32 → Option Int32
  | 0, _, _, _, _, _, _ => none
  | fu + 1, h, v0, v1, v2, v3, v4 =>
    (rdR h v0 12 0).bind fun x1 =>
    (alI .int h x1 (0 : Int32)).bind fun x3 =>
    if x3 ≤ v4 then
      some v3
    else
      if v4 = v2 then
        f_X10_noteByCitations_L17 fu h v0 v1 v2 (v3 + (0 : Int32)) (v4 + (1 : Int32))
      else
        (gd h v0 12).bind fun _ =>
        (f_X10_isAhead h v0 v4 v2).bind fun p8 =>
        if p8 = false then
          f_X10_noteByCitations_L17 fu h v0 v1 v2 (v3 + (0 : Int32)) (v4 + (1 : Int32))
        else
          f_X10_noteByCitations_L17 fu h v0 v1 v2 (v3 + (1 : Int32)) (v4 + (1 : Int32))
theorem b_X10_noteByCitations_L17 {X : PX} (E : z_E X cX10_noteByCitations RX10 "noteByCitations" 5 rmX10_noteByCitations (some .int)) (T0 : z_T0 X) {k n : Nat} (hk : k + 0 ≤ rmX10_noteByCitations.cells) (hn : n + 0 ≤ rmX10_noteByCitations.slots) {s : Int32} : ∀ (fu : Nat) (h : PH) (v0 : Nat) (v1 : Int32) (v2 : Int32) (v3 : Int32) (v4 : Int32) (e : f_X10_noteByCitations_L17 fu h v0 v1 v2 v3 v4 = some s) (kk : WP X 5 k n 58 [(0, .ref v0), (1, .int v1), (2, .int v2), (3, .int s)] [] h), WP X 5 k n 17 [(0, .ref v0), (1, .int v1), (2, .int v2), (3, .int v3), (4, .int v4)] [] h := by
  intro fu
  induction fu with
  | zero => intro h v0 v1 v2 v3 v4 e; exact absurd (show (none : Option Int32) = some s from e) (by intro z; cases z)
  | succ fu ih =>
    intro h v0 v1 v2 v3 v4 e kk
    unfold f_X10_noteByCitations_L17 at e
    refine z_iload E 4 dX10_noteByCitations_17 rfl ?_
    refine z_aload_n E 0 dX10_noteByCitations_19 rfl ?_
    obtain ⟨x1, e2, e⟩ := ob e
    refine z_getR E fl_X10_7 dX10_noteByCitations_20 e2 ?_
    refine z_iconst E dX10_noteByCitations_23 ic_0 ?_
    obtain ⟨x3, e4, e⟩ := ob e
    refine z_iald E dX10_noteByCitations_24 e4 ?_
    rcases oi e with ⟨c5, e⟩ | ⟨c5, e⟩
    · refine z_icmp_geT (tgt := 58) E dX10_noteByCitations_25 rfl c5 ?_
      obtain rfl := Option.some.inj e
      exact z_sub [0, 1, 2, 3] rfl kk
    · refine z_icmp_geF (tgt := 58) E dX10_noteByCitations_25 rfl c5 ?_
      refine z_iload_n E 3 dX10_noteByCitations_28 rfl ?_
      refine z_iload E 4 dX10_noteByCitations_29 rfl ?_
      refine z_iload_n E 2 dX10_noteByCitations_31 rfl ?_
      rcases oi e with ⟨c6, e⟩ | ⟨c6, e⟩
      · refine z_icmp_eqT (tgt := 49) E dX10_noteByCitations_32 rfl c6 ?_
        refine z_iconst E dX10_noteByCitations_49 ic_0 ?_
        refine z_iadd E dX10_noteByCitations_50 ?_
        refine z_istore_n (lv2 := [(3, .int (v3 + (0 : Int32))), (0, .ref v0), (1, .int v1), (2, .int v2), (4, .int v4)]) E dX10_noteByCitations_51 (by decide) rfl ?_
        refine z_iinc (v := (v4 + (1 : Int32))) (lv2 := [(4, .int (v4 + (1 : Int32))), (3, .int (v3 + (0 : Int32))), (0, .ref v0), (1, .int v1), (2, .int v2)]) E 4 dX10_noteByCitations_52 rfl (congrArg (v4 + ·) ic_1) (by decide) rfl ?_
        refine z_goto (tgt := 17) E dX10_noteByCitations_55 rfl ?_
        exact z_sub [2, 3, 4, 1, 0] rfl (ih _ _ _ _ _ _ e kk)
      · refine z_icmp_eqF (tgt := 49) E dX10_noteByCitations_32 rfl c6 ?_
        refine z_aload_n E 0 dX10_noteByCitations_35 rfl ?_
        refine z_iload E 4 dX10_noteByCitations_36 rfl ?_
        refine z_iload_n E 2 dX10_noteByCitations_38 rfl ?_
        obtain ⟨_, e7, e⟩ := ob e
        obtain ⟨p8, e9, e⟩ := ob e
        refine z_kR2 (st := [.int v3]) (av := [.ref v0, .int v4, .int v2]) E k n (z_rV (st := [.int v3]) (av := [.int v4, .int v2]) E Y_X10_isAhead k_X10_130 (ci := 12) rfl (c_X10_isAhead (z_El E) e9) dX10_noteByCitations_39 e7 rfl rfl (by decide) (by decide) (zk (k := k) (a := 0) hk (by decide)) (zk (k := n) (a := 0) hn (by decide)) (Nat.le_of_ble_eq_true rfl)) rfl rfl rfl ?_
        rcases oi e with ⟨c10, e⟩ | ⟨c10, e⟩
        · refine z_if_eqT (tgt := 49) E dX10_noteByCitations_42 rfl (zb_f c10) ?_
          refine z_iconst E dX10_noteByCitations_49 ic_0 ?_
          refine z_iadd E dX10_noteByCitations_50 ?_
          refine z_istore_n (lv2 := [(3, .int (v3 + (0 : Int32))), (0, .ref v0), (1, .int v1), (2, .int v2), (4, .int v4)]) E dX10_noteByCitations_51 (by decide) rfl ?_
          refine z_iinc (v := (v4 + (1 : Int32))) (lv2 := [(4, .int (v4 + (1 : Int32))), (3, .int (v3 + (0 : Int32))), (0, .ref v0), (1, .int v1), (2, .int v2)]) E 4 dX10_noteByCitations_52 rfl (congrArg (v4 + ·) ic_1) (by decide) rfl ?_
          refine z_goto (tgt := 17) E dX10_noteByCitations_55 rfl ?_
          exact z_sub [2, 3, 4, 1, 0] rfl (ih _ _ _ _ _ _ e kk)
        · refine z_if_eqF (tgt := 49) E dX10_noteByCitations_42 rfl (zb_nf c10) ?_
          refine z_iconst E dX10_noteByCitations_45 ic_1 ?_
          refine z_goto (tgt := 50) E dX10_noteByCitations_46 rfl ?_
          refine z_iadd E dX10_noteByCitations_50 ?_
          refine z_istore_n (lv2 := [(3, .int (v3 + (1 : Int32))), (0, .ref v0), (1, .int v1), (2, .int v2), (4, .int v4)]) E dX10_noteByCitations_51 (by decide) rfl ?_
          refine z_iinc (v := (v4 + (1 : Int32))) (lv2 := [(4, .int (v4 + (1 : Int32))), (3, .int (v3 + (1 : Int32))), (0, .ref v0), (1, .int v1), (2, .int v2)]) E 4 dX10_noteByCitations_52 rfl (congrArg (v4 + ·) ic_1) (by decide) rfl ?_
          refine z_goto (tgt := 17) E dX10_noteByCitations_55 rfl ?_
          exact z_sub [2, 3, 4, 1, 0] rfl (ih _ _ _ _ _ _ e kk)
noncomputable def f_X10_noteByCitations_L2 : Nat → PH → Nat → Int32 → Int32 → Option ((Int32 × PH) ⊕ Unit)
  | 0, _, _, _, _ => none
  | fu + 1, h, v0, v1, v2 =>
    (rdR h v0 12 0).bind fun x1 =>
    (alI .int h x1 (0 : Int32)).bind fun x3 =>
    if x3 ≤ v2 then
      some (Sum.inr ())
    else
      (f_X10_noteByCitations_L17 FV h v0 v1 v2 (0 : Int32) (0 : Int32)).bind fun s6 =>
      if s6 = v1 then
        (wr h v0 12 8 (.int (0 : Int32))).bind fun h9 =>
        some (Sum.inl (v2, h9))
      else
        f_X10_noteByCitations_L2 fu h v0 v1 (v2 + (1 : Int32))
theorem b_X10_noteByCitations_L2 {X : PX} (E : z_E X cX10_noteByCitations RX10 "noteByCitations" 5 rmX10_noteByCitations (some .int)) (T0 : z_T0 X) {k n : Nat} (hk : k + 0 ≤ rmX10_noteByCitations.cells) (hn : n + 0 ≤ rmX10_noteByCitations.slots) {s : ((Int32 × PH) ⊕ Unit)} : ∀ (fu : Nat) (h : PH) (v0 : Nat) (v1 : Int32) (v2 : Int32) (e : f_X10_noteByCitations_L2 fu h v0 v1 v2 = some s) (M : ∀ q, s = Sum.inl q → z_M X rmX10_noteByCitations.cells rmX10_noteByCitations.slots (.inr (some (.int q.1))) q.2) (kk : ∀ t, s = Sum.inr t → WP X 5 k n 79 [(0, .ref v0)] [] h), WP X 5 k n 2 [(0, .ref v0), (1, .int v1), (2, .int v2)] [] h := by
  intro fu
  induction fu with
  | zero => intro h v0 v1 v2 e; exact absurd (show (none : Option ((Int32 × PH) ⊕ Unit)) = some s from e) (by intro z; cases z)
  | succ fu ih =>
    intro h v0 v1 v2 e M kk
    unfold f_X10_noteByCitations_L2 at e
    refine z_iload_n E 2 dX10_noteByCitations_2 rfl ?_
    refine z_aload_n E 0 dX10_noteByCitations_3 rfl ?_
    obtain ⟨x1, e2, e⟩ := ob e
    refine z_getR E fl_X10_7 dX10_noteByCitations_4 e2 ?_
    refine z_iconst E dX10_noteByCitations_7 ic_0 ?_
    obtain ⟨x3, e4, e⟩ := ob e
    refine z_iald E dX10_noteByCitations_8 e4 ?_
    rcases oi e with ⟨c5, e⟩ | ⟨c5, e⟩
    · refine z_icmp_geT (tgt := 79) E dX10_noteByCitations_9 rfl c5 ?_
      obtain rfl := Option.some.inj e
      exact z_sub [0] rfl (kk _ rfl)
    · refine z_icmp_geF (tgt := 79) E dX10_noteByCitations_9 rfl c5 ?_
      refine z_iconst E dX10_noteByCitations_12 ic_0 ?_
      refine z_istore_n (lv2 := [(3, .int (0 : Int32)), (0, .ref v0), (1, .int v1), (2, .int v2)]) E dX10_noteByCitations_13 (by decide) rfl ?_
      refine z_iconst E dX10_noteByCitations_14 ic_0 ?_
      refine z_istore (lv2 := [(4, .int (0 : Int32)), (3, .int (0 : Int32)), (0, .ref v0), (1, .int v1), (2, .int v2)]) E dX10_noteByCitations_15 (by decide) rfl ?_
      obtain ⟨s6, e7, e⟩ := ob e
      refine z_sub [2, 3, 4, 1, 0] rfl (b_X10_noteByCitations_L17 E T0 (zk (k := k) (a := 0) hk (by decide)) (zk (k := n) (a := 0) hn (by decide)) FV _ _ _ _ _ _ e7 ?_)
      refine z_iload_n E 3 dX10_noteByCitations_58 rfl ?_
      refine z_iload_n E 1 dX10_noteByCitations_59 rfl ?_
      rcases oi e with ⟨c8, e⟩ | ⟨c8, e⟩
      · refine z_icmp_eqT (tgt := 66) E dX10_noteByCitations_60 rfl c8 ?_
        refine z_aload_n E 0 dX10_noteByCitations_66 rfl ?_
        refine z_iconst E dX10_noteByCitations_67 ic_0 ?_
        obtain ⟨h9, e10, e⟩ := ob e
        refine z_putI E fp_X10_36 (Or.inl rfl) dX10_noteByCitations_68 e10 ?_
        refine z_iload_n E 2 dX10_noteByCitations_71 rfl ?_
        have M := M _ (Option.some.inj e).symm
        exact z_iret E M dX10_noteByCitations_72 rfl rfl rfl rfl (zk (k := k) (a := 0) hk (by decide)) (zk (k := n) (a := 0) hn (by decide))
      · refine z_icmp_eqF (tgt := 66) E dX10_noteByCitations_60 rfl c8 ?_
        refine z_goto (tgt := 73) E dX10_noteByCitations_63 rfl ?_
        refine z_iinc (v := (v2 + (1 : Int32))) (lv2 := [(2, .int (v2 + (1 : Int32))), (0, .ref v0), (1, .int v1), (3, .int s6)]) E 2 dX10_noteByCitations_73 rfl (congrArg (v2 + ·) ic_1) (by decide) rfl ?_
        refine z_goto (tgt := 2) E dX10_noteByCitations_76 rfl ?_
        exact z_sub [1, 2, 0] rfl (ih _ _ _ _ e M kk)
noncomputable def f_X10_noteByCitations (h : PH) (a0 : Nat) (a1 : Int32) : Option (Int32 × PH) :=
  (f_X10_noteByCitations_L2 FV h a0 a1 (0 : Int32)).bind fun s1 =>
  Sum.elim (fun q3 => some q3) (fun t4 =>
    (wr h a0 12 8 (.int (1 : Int32))).bind fun h6 =>
    some ((0 : Int32), h6)) s1
theorem b_X10_noteByCitations {X : PX} (E : z_E X cX10_noteByCitations RX10 "noteByCitations" 5 rmX10_noteByCitations (some .int)) (T0 : z_T0 X) {h : PH} {a0 : Nat} {a1 : Int32} {r : (Int32 × PH)} (e : f_X10_noteByCitations h a0 a1 = some r) (M : z_M X rmX10_noteByCitations.cells rmX10_noteByCitations.slots (.inr (some (.int r.1))) r.2) : WP X 5 0 0 0 [(0, .ref a0), (1, .int a1)] [] h := by
  unfold f_X10_noteByCitations at e
  refine z_iconst E dX10_noteByCitations_0 ic_0 ?_
  refine z_istore_n (lv2 := [(2, .int (0 : Int32)), (0, .ref a0), (1, .int a1)]) E dX10_noteByCitations_1 (by decide) rfl ?_
  obtain ⟨s1, e2, e⟩ := ob e
  refine z_sub [1, 2, 0] rfl (b_X10_noteByCitations_L2 E T0 (by decide) (by decide) FV _ _ _ _ e2 (fun q3 c5 => ?_) (fun t4 c5 => ?_))
  · have e := os_l e c5
    obtain rfl := Option.some.inj e
    exact M
  · have e := os_r e c5
    refine z_aload_n E 0 dX10_noteByCitations_79 rfl ?_
    refine z_iconst E dX10_noteByCitations_80 ic_1 ?_
    obtain ⟨h6, e7, e⟩ := ob e
    refine z_putI E fp_X10_36 (Or.inl rfl) dX10_noteByCitations_81 e7 ?_
    refine z_iconst E dX10_noteByCitations_84 ic_0 ?_
    obtain rfl := Option.some.inj e
    exact z_iret E M dX10_noteByCitations_85 rfl rfl rfl rfl (by decide) (by decide)
theorem c_X10_noteByCitations {l : Launch} (hl : l.stackTraces = false) {h : PH} {a0 : Nat} {a1 : Int32} {r : (Int32 × PH)} (e : f_X10_noteByCitations h a0 a1 = some r) : CMet l yX10_noteByCitations (z_W yX10_noteByCitations cX10_noteByCitations 5 (some .int)) rmX10_noteByCitations h [.ref a0, .int a1] (.inr (some (.int r.1))) r.2 :=
  z_met hl Y_X10_noteByCitations (by decide +kernel) (Nat.le_of_ble_eq_true rfl) (fun X hX E T0 M => b_X10_noteByCitations E T0 e M)
abbrev rmX9_setCurrent : Room := { frames := 8, cells := 12, slots := 117, locals := 146 }
noncomputable def f_X9_setCurrent (h : PH) (a0 : Nat) (a1 : Int32) (a2 : Int32) : Option ((String ⊕ Int32) × PH) :=
  (gd h a0 11).bind fun _ =>
  (f_X9_change h a0 (3 : Int32) a1 a2 (0 : Int32)).bind fun p2 =>
  Sum.elim
    (fun E4 =>
    some ((Sum.inl E4), p2.2))
    (fun y6 =>
    some ((Sum.inr y6), p2.2)) p2.1
theorem b_X9_setCurrent {X : PX} (E : z_E X cX9_setCurrent RX9 "setCurrent" 3 rmX9_setCurrent (some .int)) (T0 : z_T0 X) {h : PH} {a0 : Nat} {a1 : Int32} {a2 : Int32} {r : ((String ⊕ Int32) × PH)} (e : f_X9_setCurrent h a0 a1 a2 = some r) (M : z_M X rmX9_setCurrent.cells rmX9_setCurrent.slots (zoI r.1) r.2) : WP X 3 0 0 0 [(0, .ref a0), (1, .int a1), (2, .int a2)] [] h := by
  unfold f_X9_setCurrent at e
  refine z_aload_n E 0 dX9_setCurrent_0 rfl ?_
  refine z_iconst E dX9_setCurrent_1 ic_3 ?_
  refine z_iload_n E 1 dX9_setCurrent_2 rfl ?_
  refine z_iload_n E 2 dX9_setCurrent_3 rfl ?_
  refine z_iconst E dX9_setCurrent_4 ic_0 ?_
  obtain ⟨_, e1, e⟩ := ob e
  obtain ⟨p2, e3, e⟩ := ob e
  rcases os e with ⟨E4, c5, e⟩ | ⟨y6, c5, e⟩
  · obtain rfl := Option.some.inj e
    refine z_kX2 (st := []) (av := [.ref a0, .int (3 : Int32), .int a1, .int a2, .int (0 : Int32)]) E 12 117 (z_rV (st := []) (av := [.int (3 : Int32), .int a1, .int a2, .int (0 : Int32)]) E Y_X9_change k_X9_61 (ci := 11) rfl (zc_o (c_X9_change (z_El E) e3) (by rw [c5]; rfl)) dX9_setCurrent_5 e1 rfl rfl (by decide) (by decide) (by decide) (by decide) (Nat.zero_le _)) rfl rfl rfl ?_
    exact z_outX E T0 M rfl rfl (by decide) (by decide)
  · refine z_kR2 (st := []) (av := [.ref a0, .int (3 : Int32), .int a1, .int a2, .int (0 : Int32)]) E 12 117 (z_rV (st := []) (av := [.int (3 : Int32), .int a1, .int a2, .int (0 : Int32)]) E Y_X9_change k_X9_61 (ci := 11) rfl (zc_o (c_X9_change (z_El E) e3) (by rw [c5]; rfl)) dX9_setCurrent_5 e1 rfl rfl (by decide) (by decide) (by decide) (by decide) (Nat.zero_le _)) rfl rfl rfl ?_
    obtain rfl := Option.some.inj e
    exact z_iret E M dX9_setCurrent_8 rfl rfl rfl rfl (by decide) (by decide)
theorem c_X9_setCurrent {l : Launch} (hl : l.stackTraces = false) {h : PH} {a0 : Nat} {a1 : Int32} {a2 : Int32} {r : ((String ⊕ Int32) × PH)} (e : f_X9_setCurrent h a0 a1 a2 = some r) : CMet l yX9_setCurrent (z_W yX9_setCurrent cX9_setCurrent 3 (some .int)) rmX9_setCurrent h [.ref a0, .int a1, .int a2] (zoI r.1) r.2 :=
  z_met hl Y_X9_setCurrent (by decide +kernel) (Nat.le_of_ble_eq_true rfl) (fun X hX E T0 M => b_X9_setCurrent E T0 e M)
abbrev rmL_setCurrent : Room := { frames := 9, cells := 12, slots := 117, locals := 168 }
noncomputable def f_L_setCurrent (h : PH) (a0 : Nat) (a1 : Int32) (a2 : Int32) (a3 : Nat) : Option (Int32 × PH) :=
  (gd h a0 11).bind fun _ =>
  (f_X9_setCurrent h a0 a1 a2).bind fun p2 =>
  Sum.elim
    (fun E4 =>
    if E4 = "java/lang/IllegalArgumentException" then
      some ((1 : Int32), p2.2)
    else none)
    (fun y6 =>
    (asL p2.2 a3 (0 : Int32) y6.toInt64).bind fun h8 =>
    some ((0 : Int32), h8)) p2.1
theorem b_L_setCurrent {X : PX} (E : z_E X cL_setCurrent RL "setCurrent" 5 rmL_setCurrent (some .int)) (TT : z_TT X [(0, 10, 13, 13)]) {h : PH} {a0 : Nat} {a1 : Int32} {a2 : Int32} {a3 : Nat} {r : (Int32 × PH)} (e : f_L_setCurrent h a0 a1 a2 a3 = some r) (M : z_M X rmL_setCurrent.cells rmL_setCurrent.slots (.inr (some (.int r.1))) r.2) : WP X 5 0 0 0 [(0, .ref a0), (1, .int a1), (2, .int a2), (3, .ref a3)] [] h := by
  unfold f_L_setCurrent at e
  refine z_aload_n E 3 dL_setCurrent_0 rfl ?_
  refine z_iconst E dL_setCurrent_1 ic_0 ?_
  refine z_aload_n E 0 dL_setCurrent_2 rfl ?_
  refine z_iload_n E 1 dL_setCurrent_3 rfl ?_
  refine z_iload_n E 2 dL_setCurrent_4 rfl ?_
  obtain ⟨_, e1, e⟩ := ob e
  obtain ⟨p2, e3, e⟩ := ob e
  rcases os e with ⟨E4, c5, e⟩ | ⟨y6, c5, e⟩
  · rcases oi e with ⟨c7, e⟩ | ⟨c7, e⟩
    · subst c7
      refine z_kX2 (st := [.int (0 : Int32), .ref a3]) (av := [.ref a0, .int a1, .int a2]) E 12 117 (z_rV (st := [.int (0 : Int32), .ref a3]) (av := [.int a1, .int a2]) E Y_X9_setCurrent k_L_52 (ci := 11) rfl (zc_o (c_X9_setCurrent (z_El E) e3) (by rw [c5]; rfl)) dL_setCurrent_5 e1 rfl rfl (by decide) (by decide) (by decide) (by decide) (Nat.le_of_ble_eq_true rfl)) rfl rfl rfl ?_
      refine z_catch (lv2 := [(0, .ref a0), (1, .int a1), (2, .int a2), (3, .ref a3)]) E TT 0 (q := (0, 10, 13, 13)) rfl rfl (by decide) cl_L_13 kb_IllegalArgumentException (fun z hz => nomatch hz) (Or.inr ⟨dL_setCurrent_13, rfl⟩) (by decide) rfl ?_
      refine z_iconst E dL_setCurrent_15 ic_1 ?_
      obtain rfl := Option.some.inj e
      exact z_iret E M dL_setCurrent_16 rfl rfl rfl rfl (by decide) (by decide)
    cases e
  · refine z_kR2 (st := [.int (0 : Int32), .ref a3]) (av := [.ref a0, .int a1, .int a2]) E 12 117 (z_rV (st := [.int (0 : Int32), .ref a3]) (av := [.int a1, .int a2]) E Y_X9_setCurrent k_L_52 (ci := 11) rfl (zc_o (c_X9_setCurrent (z_El E) e3) (by rw [c5]; rfl)) dL_setCurrent_5 e1 rfl rfl (by decide) (by decide) (by decide) (by decide) (Nat.le_of_ble_eq_true rfl)) rfl rfl rfl ?_
    refine z_i2l (v := y6.toInt64) E dL_setCurrent_8 rfl ?_
    obtain ⟨h8, e9, e⟩ := ob e
    refine z_last E dL_setCurrent_9 e9 ?_
    refine z_goto (tgt := 17) E dL_setCurrent_10 rfl ?_
    refine z_iconst E dL_setCurrent_17 ic_0 ?_
    obtain rfl := Option.some.inj e
    exact z_iret E M dL_setCurrent_18 rfl rfl rfl rfl (by decide) (by decide)
theorem c_L_setCurrent {l : Launch} (hl : l.stackTraces = false) {h : PH} {a0 : Nat} {a1 : Int32} {a2 : Int32} {a3 : Nat} {r : (Int32 × PH)} (e : f_L_setCurrent h a0 a1 a2 a3 = some r) : CMet l yL_setCurrent (z_WH yL_setCurrent cL_setCurrent 5 (some .int) [(0, 10, 13, 13)]) rmL_setCurrent h [.ref a0, .int a1, .int a2, .ref a3] (.inr (some (.int r.1))) r.2 :=
  z_metH hl Y_L_setCurrent (by decide +kernel) (Nat.le_of_ble_eq_true rfl) (fun X hX E T0 M => b_L_setCurrent E T0 e M)
abbrev rmX10_setCurrent : Room := { frames := 2, cells := 0, slots := 0, locals := 46 }
noncomputable def f_X10_setCurrent_J22 (h : PH) (v0 : Nat) (v1 : Int32) (v2 : Int32) (w0 : Int32) (w1 : Nat) : Option (Int32 × PH) :=
  (gd h w1 12).bind fun _ =>
  (f_X10_fails h w1 w0).bind fun p2 =>
  if p2.1 = false then
    (rdR p2.2 v0 12 0).bind fun x5 =>
    (alI .int p2.2 x5 ((8 : Int32) + v1)).bind fun x7 =>
    (rdR p2.2 v0 12 0).bind fun x9 =>
    (gd p2.2 v0 12).bind fun _ =>
    (f_X10_keeps p2.2 v0 x9).bind fun p12 =>
    (rdR p12 v0 12 0).bind fun x14 =>
    (asI .int p12 x14 ((8 : Int32) + v1) v2).bind fun h16 =>
    some (x7, h16)
  else
    some ((0 : Int32), p2.2)
theorem b_X10_setCurrent_J22 {X : PX} (E : z_E X cX10_setCurrent RX10 "setCurrent" 4 rmX10_setCurrent (some .int)) (T0 : z_T0 X) {k n : Nat} (hk : k + 0 ≤ rmX10_setCurrent.cells) (hn : n + 0 ≤ rmX10_setCurrent.slots) {h : PH} {v0 : Nat} {v1 : Int32} {v2 : Int32} {w0 : Int32} {w1 : Nat} {r : (Int32 × PH)} (e : f_X10_setCurrent_J22 h v0 v1 v2 w0 w1 = some r) (M : z_M X rmX10_setCurrent.cells rmX10_setCurrent.slots (.inr (some (.int r.1))) r.2) : WP X 4 k n 22 [(0, .ref v0), (1, .int v1), (2, .int v2)] [.int w0, .ref w1] h := by
  unfold f_X10_setCurrent_J22 at e
  obtain ⟨_, e1, e⟩ := ob e
  obtain ⟨p2, e3, e⟩ := ob e
  refine z_kR2 (st := []) (av := [.ref w1, .int w0]) E k n (z_rV (st := []) (av := [.int w0]) E Y_X10_fails k_X10_70 (ci := 12) rfl (c_X10_fails (z_El E) e3) dX10_setCurrent_22 e1 rfl rfl (by decide) (by decide) (zk (k := k) (a := 0) hk (by decide)) (zk (k := n) (a := 0) hn (by decide)) (Nat.zero_le _)) rfl rfl rfl ?_
  rcases oi e with ⟨c4, e⟩ | ⟨c4, e⟩
  · refine z_if_eqT (tgt := 30) E dX10_setCurrent_25 rfl (zb_f c4) ?_
    refine z_aload_n E 0 dX10_setCurrent_30 rfl ?_
    obtain ⟨x5, e6, e⟩ := ob e
    refine z_getR E fl_X10_7 dX10_setCurrent_31 e6 ?_
    refine z_bipush E dX10_setCurrent_34 bp_8 ?_
    refine z_iload_n E 1 dX10_setCurrent_36 rfl ?_
    refine z_iadd E dX10_setCurrent_37 ?_
    obtain ⟨x7, e8, e⟩ := ob e
    refine z_iald E dX10_setCurrent_38 e8 ?_
    refine z_istore_n (lv2 := [(3, .int x7), (0, .ref v0), (1, .int v1), (2, .int v2)]) E dX10_setCurrent_39 (by decide) rfl ?_
    refine z_aload_n E 1 dX10_setCurrent_40 rfl ?_
    refine z_aload_n E 1 dX10_setCurrent_41 rfl ?_
    obtain ⟨x9, e10, e⟩ := ob e
    refine z_getR E fl_X10_7 dX10_setCurrent_42 e10 ?_
    obtain ⟨_, e11, e⟩ := ob e
    obtain ⟨p12, e13, e⟩ := ob e
    refine z_kV2 (st := []) (av := [.ref v0, .ref x9]) E k n (z_rV (st := []) (av := [.ref x9]) E Y_X10_keeps k_X10_84 (ci := 12) rfl (c_X10_keeps (z_El E) e13) dX10_setCurrent_45 e11 rfl rfl (by decide) (by decide) (zk (k := k) (a := 0) hk (by decide)) (zk (k := n) (a := 0) hn (by decide)) (Nat.zero_le _)) rfl rfl rfl ?_
    refine z_aload_n E 1 dX10_setCurrent_48 rfl ?_
    obtain ⟨x14, e15, e⟩ := ob e
    refine z_getR E fl_X10_7 dX10_setCurrent_49 e15 ?_
    refine z_bipush E dX10_setCurrent_52 bp_8 ?_
    refine z_iload_n E 2 dX10_setCurrent_54 rfl ?_
    refine z_iadd E dX10_setCurrent_55 ?_
    refine z_iload_n E 3 dX10_setCurrent_56 rfl ?_
    obtain ⟨h16, e17, e⟩ := ob e
    refine z_iast E dX10_setCurrent_57 e17 ?_
    refine z_iload_n E 0 dX10_setCurrent_58 rfl ?_
    obtain rfl := Option.some.inj e
    exact z_iret E M dX10_setCurrent_59 rfl rfl rfl rfl (zk (k := k) (a := 0) hk (by decide)) (zk (k := n) (a := 0) hn (by decide))
  · refine z_if_eqF (tgt := 30) E dX10_setCurrent_25 rfl (zb_nf c4) ?_
    refine z_iconst E dX10_setCurrent_28 ic_0 ?_
    obtain rfl := Option.some.inj e
    exact z_iret E M dX10_setCurrent_29 rfl rfl rfl rfl (zk (k := k) (a := 0) hk (by decide)) (zk (k := n) (a := 0) hn (by decide))
noncomputable def f_X10_setCurrent_J21 (h : PH) (v0 : Nat) (v1 : Int32) (v2 : Int32) (w0 : Nat) : Option (Int32 × PH) :=
  f_X10_setCurrent_J22 h v0 v1 v2 (1 : Int32) w0
theorem b_X10_setCurrent_J21 {X : PX} (E : z_E X cX10_setCurrent RX10 "setCurrent" 4 rmX10_setCurrent (some .int)) (T0 : z_T0 X) {k n : Nat} (hk : k + 0 ≤ rmX10_setCurrent.cells) (hn : n + 0 ≤ rmX10_setCurrent.slots) {h : PH} {v0 : Nat} {v1 : Int32} {v2 : Int32} {w0 : Nat} {r : (Int32 × PH)} (e : f_X10_setCurrent_J21 h v0 v1 v2 w0 = some r) (M : z_M X rmX10_setCurrent.cells rmX10_setCurrent.slots (.inr (some (.int r.1))) r.2) : WP X 4 k n 21 [(0, .ref v0), (1, .int v1), (2, .int v2)] [.ref w0] h := by
  unfold f_X10_setCurrent_J21 at e
  refine z_iconst E dX10_setCurrent_21 ic_1 ?_
  exact z_sub [0, 1, 2] rfl (b_X10_setCurrent_J22 E T0 (zk (k := k) (a := 0) hk (by decide)) (zk (k := n) (a := 0) hn (by decide)) e M)
noncomputable def f_X10_setCurrent (h : PH) (a0 : Nat) (a1 : Int32) (a2 : Int32) : Option (Int32 × PH) :=
  if (f_X10_isPage a1) = false then
    f_X10_setCurrent_J21 h a0 a1 a2 a0
  else
    if (f_X10_in a2 (-1 : Int32) (1 : Int32)) = false then
      f_X10_setCurrent_J21 h a0 a1 a2 a0
    else
      f_X10_setCurrent_J22 h a0 a1 a2 (0 : Int32) a0
theorem b_X10_setCurrent {X : PX} (E : z_E X cX10_setCurrent RX10 "setCurrent" 4 rmX10_setCurrent (some .int)) (T0 : z_T0 X) {h : PH} {a0 : Nat} {a1 : Int32} {a2 : Int32} {r : (Int32 × PH)} (e : f_X10_setCurrent h a0 a1 a2 = some r) (M : z_M X rmX10_setCurrent.cells rmX10_setCurrent.slots (.inr (some (.int r.1))) r.2) : WP X 4 0 0 0 [(0, .ref a0), (1, .int a1), (2, .int a2)] [] h := by
  unfold f_X10_setCurrent at e
  refine z_aload_n E 0 dX10_setCurrent_0 rfl ?_
  refine z_iload_n E 1 dX10_setCurrent_1 rfl ?_
  refine z_kR2 (st := [.ref a0]) (av := [.int a1]) E 0 0 (z_rS (st := [.ref a0]) (av := [.int a1]) E Y_X10_isPage k_X10_77 (c_X10_isPage (l := z_l X) (h := h) (z_El E) a1) dX10_setCurrent_2 rfl rfl (by decide) (by decide) (by decide) (by decide) (Nat.le_of_ble_eq_true rfl)) rfl rfl rfl ?_
  rcases oi e with ⟨c1, e⟩ | ⟨c1, e⟩
  · refine z_if_eqT (tgt := 21) E dX10_setCurrent_5 rfl (zb_f c1) ?_
    exact z_sub [0, 1, 2] rfl (b_X10_setCurrent_J21 E T0 (by decide) (by decide) e M)
  · refine z_if_eqF (tgt := 21) E dX10_setCurrent_5 rfl (zb_nf c1) ?_
    refine z_iload_n E 2 dX10_setCurrent_8 rfl ?_
    refine z_iconst E dX10_setCurrent_9 ic_m1 ?_
    refine z_iconst E dX10_setCurrent_10 ic_1 ?_
    refine z_kR2 (st := [.ref a0]) (av := [.int a2, .int (-1 : Int32), .int (1 : Int32)]) E 0 0 (z_rS (st := [.ref a0]) (av := [.int a2, .int (-1 : Int32), .int (1 : Int32)]) E Y_X10_in k_X10_62 (c_X10_in (l := z_l X) (h := h) (z_El E) a2 (-1 : Int32) (1 : Int32)) dX10_setCurrent_11 rfl rfl (by decide) (by decide) (by decide) (by decide) (Nat.le_of_ble_eq_true rfl)) rfl rfl rfl ?_
    rcases oi e with ⟨c2, e⟩ | ⟨c2, e⟩
    · refine z_if_eqT (tgt := 21) E dX10_setCurrent_14 rfl (zb_f c2) ?_
      exact z_sub [0, 1, 2] rfl (b_X10_setCurrent_J21 E T0 (by decide) (by decide) e M)
    · refine z_if_eqF (tgt := 21) E dX10_setCurrent_14 rfl (zb_nf c2) ?_
      refine z_iconst E dX10_setCurrent_17 ic_0 ?_
      refine z_goto (tgt := 22) E dX10_setCurrent_18 rfl ?_
      exact z_sub [0, 1, 2] rfl (b_X10_setCurrent_J22 E T0 (by decide) (by decide) e M)
theorem c_X10_setCurrent {l : Launch} (hl : l.stackTraces = false) {h : PH} {a0 : Nat} {a1 : Int32} {a2 : Int32} {r : (Int32 × PH)} (e : f_X10_setCurrent h a0 a1 a2 = some r) : CMet l yX10_setCurrent (z_W yX10_setCurrent cX10_setCurrent 4 (some .int)) rmX10_setCurrent h [.ref a0, .int a1, .int a2] (.inr (some (.int r.1))) r.2 :=
  z_met hl Y_X10_setCurrent (by decide +kernel) (Nat.le_of_ble_eq_true rfl) (fun X hX E T0 M => b_X10_setCurrent E T0 e M)
abbrev rmX9_setQuota : Room := { frames := 8, cells := 12, slots := 117, locals := 146 }
noncomputable def f_X9_setQuota (h : PH) (a0 : Nat) (a1 : Int32) (a2 : Int32) : Option ((String ⊕ Int32) × PH) :=
  (gd h a0 11).bind fun _ =>
  (f_X9_change h a0 (7 : Int32) a1 a2 (0 : Int32)).bind fun p2 =>
  Sum.elim
    (fun E4 =>
    some ((Sum.inl E4), p2.2))
    (fun y6 =>
    some ((Sum.inr y6), p2.2)) p2.1
theorem b_X9_setQuota {X : PX} (E : z_E X cX9_setQuota RX9 "setQuota" 3 rmX9_setQuota (some .int)) (T0 : z_T0 X) {h : PH} {a0 : Nat} {a1 : Int32} {a2 : Int32} {r : ((String ⊕ Int32) × PH)} (e : f_X9_setQuota h a0 a1 a2 = some r) (M : z_M X rmX9_setQuota.cells rmX9_setQuota.slots (zoI r.1) r.2) : WP X 3 0 0 0 [(0, .ref a0), (1, .int a1), (2, .int a2)] [] h := by
  unfold f_X9_setQuota at e
  refine z_aload_n E 0 dX9_setQuota_0 rfl ?_
  refine z_bipush E dX9_setQuota_1 bp_7 ?_
  refine z_iload_n E 1 dX9_setQuota_3 rfl ?_
  refine z_iload_n E 2 dX9_setQuota_4 rfl ?_
  refine z_iconst E dX9_setQuota_5 ic_0 ?_
  obtain ⟨_, e1, e⟩ := ob e
  obtain ⟨p2, e3, e⟩ := ob e
  rcases os e with ⟨E4, c5, e⟩ | ⟨y6, c5, e⟩
  · obtain rfl := Option.some.inj e
    refine z_kX2 (st := []) (av := [.ref a0, .int (7 : Int32), .int a1, .int a2, .int (0 : Int32)]) E 12 117 (z_rV (st := []) (av := [.int (7 : Int32), .int a1, .int a2, .int (0 : Int32)]) E Y_X9_change k_X9_61 (ci := 11) rfl (zc_o (c_X9_change (z_El E) e3) (by rw [c5]; rfl)) dX9_setQuota_6 e1 rfl rfl (by decide) (by decide) (by decide) (by decide) (Nat.zero_le _)) rfl rfl rfl ?_
    exact z_outX E T0 M rfl rfl (by decide) (by decide)
  · refine z_kR2 (st := []) (av := [.ref a0, .int (7 : Int32), .int a1, .int a2, .int (0 : Int32)]) E 12 117 (z_rV (st := []) (av := [.int (7 : Int32), .int a1, .int a2, .int (0 : Int32)]) E Y_X9_change k_X9_61 (ci := 11) rfl (zc_o (c_X9_change (z_El E) e3) (by rw [c5]; rfl)) dX9_setQuota_6 e1 rfl rfl (by decide) (by decide) (by decide) (by decide) (Nat.zero_le _)) rfl rfl rfl ?_
    obtain rfl := Option.some.inj e
    exact z_iret E M dX9_setQuota_9 rfl rfl rfl rfl (by decide) (by decide)
theorem c_X9_setQuota {l : Launch} (hl : l.stackTraces = false) {h : PH} {a0 : Nat} {a1 : Int32} {a2 : Int32} {r : ((String ⊕ Int32) × PH)} (e : f_X9_setQuota h a0 a1 a2 = some r) : CMet l yX9_setQuota (z_W yX9_setQuota cX9_setQuota 3 (some .int)) rmX9_setQuota h [.ref a0, .int a1, .int a2] (zoI r.1) r.2 :=
  z_met hl Y_X9_setQuota (by decide +kernel) (Nat.le_of_ble_eq_true rfl) (fun X hX E T0 M => b_X9_setQuota E T0 e M)
