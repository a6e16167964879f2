abbrev rmL_setQuota : Room := { frames := 9, cells := 12, slots := 117, locals := 168 }
noncomputable def f_L_setQuota (h : PH) (a0 : Nat) (a1 : Int32) (a2 : Int32) (a3 : Nat) : Option (Int32 × PH) :=
  (gd h a0 11).bind fun _ =>
  (f_X9_setQuota h a0 a1 a2).bind fun p2 =>
  Sum.elim
    (fun E4 =>
    if E4 = "java/lang/IllegalArgumentException" then
      some ((1 : Int32), p2.2)
    else none)
    (fun y6 =>
    (asL p2.2 a3 (0 : Int32) y6.toInt64).bind fun h8 =>
    some ((0 : Int32), h8)) p2.1
theorem b_L_setQuota {X : PX} (E : z_E X cL_setQuota RL "setQuota" 5 rmL_setQuota (some .int)) (TT : z_TT X [(0, 10, 13, 13)]) {h : PH} {a0 : Nat} {a1 : Int32} {a2 : Int32} {a3 : Nat} {r : (Int32 × PH)} (e : f_L_setQuota h a0 a1 a2 a3 = some r) (M : z_M X rmL_setQuota.cells rmL_setQuota.slots (.inr (some (.int r.1))) r.2) : WP X 5 0 0 0 [(0, .ref a0), (1, .int a1), (2, .int a2), (3, .ref a3)] [] h := by
  unfold f_L_setQuota at e
  refine z_aload_n E 3 dL_setQuota_0 rfl ?_
  refine z_iconst E dL_setQuota_1 ic_0 ?_
  refine z_aload_n E 0 dL_setQuota_2 rfl ?_
  refine z_iload_n E 1 dL_setQuota_3 rfl ?_
  refine z_iload_n E 2 dL_setQuota_4 rfl ?_
  obtain ⟨_, e1, e⟩ := ob e
  obtain ⟨p2, e3, e⟩ := ob e
  rcases os e with ⟨E4, c5, e⟩ | ⟨y6, c5, e⟩
  · rcases oi e with ⟨c7, e⟩ | ⟨c7, e⟩
    · subst c7
      refine z_kX2 (st := [.int (0 : Int32), .ref a3]) (av := [.ref a0, .int a1, .int a2]) E 12 117 (z_rV (st := [.int (0 : Int32), .ref a3]) (av := [.int a1, .int a2]) E Y_X9_setQuota k_L_55 (ci := 11) rfl (zc_o (c_X9_setQuota (z_El E) e3) (by rw [c5]; rfl)) dL_setQuota_5 e1 rfl rfl (by decide) (by decide) (by decide) (by decide) (Nat.le_of_ble_eq_true rfl)) rfl rfl rfl ?_
      refine z_catch (lv2 := [(0, .ref a0), (1, .int a1), (2, .int a2), (3, .ref a3)]) E TT 0 (q := (0, 10, 13, 13)) rfl rfl (by decide) cl_L_13 kb_IllegalArgumentException (fun z hz => nomatch hz) (Or.inr ⟨dL_setQuota_13, rfl⟩) (by decide) rfl ?_
      refine z_iconst E dL_setQuota_15 ic_1 ?_
      obtain rfl := Option.some.inj e
      exact z_iret E M dL_setQuota_16 rfl rfl rfl rfl (by decide) (by decide)
    cases e
  · refine z_kR2 (st := [.int (0 : Int32), .ref a3]) (av := [.ref a0, .int a1, .int a2]) E 12 117 (z_rV (st := [.int (0 : Int32), .ref a3]) (av := [.int a1, .int a2]) E Y_X9_setQuota k_L_55 (ci := 11) rfl (zc_o (c_X9_setQuota (z_El E) e3) (by rw [c5]; rfl)) dL_setQuota_5 e1 rfl rfl (by decide) (by decide) (by decide) (by decide) (Nat.le_of_ble_eq_true rfl)) rfl rfl rfl ?_
    refine z_i2l (v := y6.toInt64) E dL_setQuota_8 rfl ?_
    obtain ⟨h8, e9, e⟩ := ob e
    refine z_last E dL_setQuota_9 e9 ?_
    refine z_goto (tgt := 17) E dL_setQuota_10 rfl ?_
    refine z_iconst E dL_setQuota_17 ic_0 ?_
    obtain rfl := Option.some.inj e
    exact z_iret E M dL_setQuota_18 rfl rfl rfl rfl (by decide) (by decide)
theorem c_L_setQuota {l : Launch} (hl : l.stackTraces = false) {h : PH} {a0 : Nat} {a1 : Int32} {a2 : Int32} {a3 : Nat} {r : (Int32 × PH)} (e : f_L_setQuota h a0 a1 a2 a3 = some r) : CMet l yL_setQuota (z_WH yL_setQuota cL_setQuota 5 (some .int) [(0, 10, 13, 13)]) rmL_setQuota h [.ref a0, .int a1, .int a2, .ref a3] (.inr (some (.int r.1))) r.2 :=
  z_metH hl Y_L_setQuota (by decide +kernel) (Nat.le_of_ble_eq_true rfl) (fun X hX E T0 M => b_L_setQuota E T0 e M)
abbrev rmX10_setQuota : Room := { frames := 2, cells := 0, slots := 0, locals := 46 }
noncomputable def f_X10_setQuota_J23 (h : PH) (v0 : Nat) (v1 : Int32) (v2 : Int32) (w0 : Int32) (w1 : Nat) : Option (Int32 × PH) :=
  (gd h w1 12).bind fun _ =>
  (f_X10_fails h w1 w0).bind fun p2 =>
  if p2.1 = false then
    (rdR p2.2 v0 12 0).bind fun x5 =>
    (alI .int p2.2 x5 ((20 : Int32) + v1)).bind fun x7 =>
    (rdR p2.2 v0 12 0).bind fun x9 =>
    (gd p2.2 v0 12).bind fun _ =>
    (f_X10_keeps p2.2 v0 x9).bind fun p12 =>
    (rdR p12 v0 12 0).bind fun x14 =>
    (asI .int p12 x14 ((20 : Int32) + v1) v2).bind fun h16 =>
    some (x7, h16)
  else
    some ((0 : Int32), p2.2)
theorem b_X10_setQuota_J23 {X : PX} (E : z_E X cX10_setQuota RX10 "setQuota" 4 rmX10_setQuota (some .int)) (T0 : z_T0 X) {k n : Nat} (hk : k + 0 ≤ rmX10_setQuota.cells) (hn : n + 0 ≤ rmX10_setQuota.slots) {h : PH} {v0 : Nat} {v1 : Int32} {v2 : Int32} {w0 : Int32} {w1 : Nat} {r : (Int32 × PH)} (e : f_X10_setQuota_J23 h v0 v1 v2 w0 w1 = some r) (M : z_M X rmX10_setQuota.cells rmX10_setQuota.slots (.inr (some (.int r.1))) r.2) : WP X 4 k n 23 [(0, .ref v0), (1, .int v1), (2, .int v2)] [.int w0, .ref w1] h := by
  unfold f_X10_setQuota_J23 at e
  obtain ⟨_, e1, e⟩ := ob e
  obtain ⟨p2, e3, e⟩ := ob e
  refine z_kR2 (st := []) (av := [.ref w1, .int w0]) E k n (z_rV (st := []) (av := [.int w0]) E Y_X10_fails k_X10_70 (ci := 12) rfl (c_X10_fails (z_El E) e3) dX10_setQuota_23 e1 rfl rfl (by decide) (by decide) (zk (k := k) (a := 0) hk (by decide)) (zk (k := n) (a := 0) hn (by decide)) (Nat.zero_le _)) rfl rfl rfl ?_
  rcases oi e with ⟨c4, e⟩ | ⟨c4, e⟩
  · refine z_if_eqT (tgt := 31) E dX10_setQuota_26 rfl (zb_f c4) ?_
    refine z_aload_n E 0 dX10_setQuota_31 rfl ?_
    obtain ⟨x5, e6, e⟩ := ob e
    refine z_getR E fl_X10_7 dX10_setQuota_32 e6 ?_
    refine z_bipush E dX10_setQuota_35 bp_20 ?_
    refine z_iload_n E 1 dX10_setQuota_37 rfl ?_
    refine z_iadd E dX10_setQuota_38 ?_
    obtain ⟨x7, e8, e⟩ := ob e
    refine z_iald E dX10_setQuota_39 e8 ?_
    refine z_istore_n (lv2 := [(3, .int x7), (0, .ref v0), (1, .int v1), (2, .int v2)]) E dX10_setQuota_40 (by decide) rfl ?_
    refine z_aload_n E 1 dX10_setQuota_41 rfl ?_
    refine z_aload_n E 1 dX10_setQuota_42 rfl ?_
    obtain ⟨x9, e10, e⟩ := ob e
    refine z_getR E fl_X10_7 dX10_setQuota_43 e10 ?_
    obtain ⟨_, e11, e⟩ := ob e
    obtain ⟨p12, e13, e⟩ := ob e
    refine z_kV2 (st := []) (av := [.ref v0, .ref x9]) E k n (z_rV (st := []) (av := [.ref x9]) E Y_X10_keeps k_X10_84 (ci := 12) rfl (c_X10_keeps (z_El E) e13) dX10_setQuota_46 e11 rfl rfl (by decide) (by decide) (zk (k := k) (a := 0) hk (by decide)) (zk (k := n) (a := 0) hn (by decide)) (Nat.zero_le _)) rfl rfl rfl ?_
    refine z_aload_n E 1 dX10_setQuota_49 rfl ?_
    obtain ⟨x14, e15, e⟩ := ob e
    refine z_getR E fl_X10_7 dX10_setQuota_50 e15 ?_
    refine z_bipush E dX10_setQuota_53 bp_20 ?_
    refine z_iload_n E 2 dX10_setQuota_55 rfl ?_
    refine z_iadd E dX10_setQuota_56 ?_
    refine z_iload_n E 3 dX10_setQuota_57 rfl ?_
    obtain ⟨h16, e17, e⟩ := ob e
    refine z_iast E dX10_setQuota_58 e17 ?_
    refine z_iload_n E 0 dX10_setQuota_59 rfl ?_
    obtain rfl := Option.some.inj e
    exact z_iret E M dX10_setQuota_60 rfl rfl rfl rfl (zk (k := k) (a := 0) hk (by decide)) (zk (k := n) (a := 0) hn (by decide))
  · refine z_if_eqF (tgt := 31) E dX10_setQuota_26 rfl (zb_nf c4) ?_
    refine z_iconst E dX10_setQuota_29 ic_0 ?_
    obtain rfl := Option.some.inj e
    exact z_iret E M dX10_setQuota_30 rfl rfl rfl rfl (zk (k := k) (a := 0) hk (by decide)) (zk (k := n) (a := 0) hn (by decide))
noncomputable def f_X10_setQuota_J22 (h : PH) (v0 : Nat) (v1 : Int32) (v2 : Int32) (w0 : Nat) : Option (Int32 × PH) :=
  f_X10_setQuota_J23 h v0 v1 v2 (1 : Int32) w0
theorem b_X10_setQuota_J22 {X : PX} (E : z_E X cX10_setQuota RX10 "setQuota" 4 rmX10_setQuota (some .int)) (T0 : z_T0 X) {k n : Nat} (hk : k + 0 ≤ rmX10_setQuota.cells) (hn : n + 0 ≤ rmX10_setQuota.slots) {h : PH} {v0 : Nat} {v1 : Int32} {v2 : Int32} {w0 : Nat} {r : (Int32 × PH)} (e : f_X10_setQuota_J22 h v0 v1 v2 w0 = some r) (M : z_M X rmX10_setQuota.cells rmX10_setQuota.slots (.inr (some (.int r.1))) r.2) : WP X 4 k n 22 [(0, .ref v0), (1, .int v1), (2, .int v2)] [.ref w0] h := by
  unfold f_X10_setQuota_J22 at e
  refine z_iconst E dX10_setQuota_22 ic_1 ?_
  exact z_sub [0, 1, 2] rfl (b_X10_setQuota_J23 E T0 (zk (k := k) (a := 0) hk (by decide)) (zk (k := n) (a := 0) hn (by decide)) e M)
noncomputable def f_X10_setQuota (h : PH) (a0 : Nat) (a1 : Int32) (a2 : Int32) : Option (Int32 × PH) :=
  if (f_X10_isPage a1) = false then
    f_X10_setQuota_J22 h a0 a1 a2 a0
  else
    if (f_X10_in a2 (0 : Int32) (99 : Int32)) = false then
      f_X10_setQuota_J22 h a0 a1 a2 a0
    else
      f_X10_setQuota_J23 h a0 a1 a2 (0 : Int32) a0
theorem b_X10_setQuota {X : PX} (E : z_E X cX10_setQuota RX10 "setQuota" 4 rmX10_setQuota (some .int)) (T0 : z_T0 X) {h : PH} {a0 : Nat} {a1 : Int32} {a2 : Int32} {r : (Int32 × PH)} (e : f_X10_setQuota h a0 a1 a2 = some r) (M : z_M X rmX10_setQuota.cells rmX10_setQuota.slots (.inr (some (.int r.1))) r.2) : WP X 4 0 0 0 [(0, .ref a0), (1, .int a1), (2, .int a2)] [] h := by
  unfold f_X10_setQuota at e
  refine z_aload_n E 0 dX10_setQuota_0 rfl ?_
  refine z_iload_n E 1 dX10_setQuota_1 rfl ?_
  refine z_kR2 (st := [.ref a0]) (av := [.int a1]) E 0 0 (z_rS (st := [.ref a0]) (av := [.int a1]) E Y_X10_isPage k_X10_77 (c_X10_isPage (l := z_l X) (h := h) (z_El E) a1) dX10_setQuota_2 rfl rfl (by decide) (by decide) (by decide) (by decide) (Nat.le_of_ble_eq_true rfl)) rfl rfl rfl ?_
  rcases oi e with ⟨c1, e⟩ | ⟨c1, e⟩
  · refine z_if_eqT (tgt := 22) E dX10_setQuota_5 rfl (zb_f c1) ?_
    exact z_sub [0, 1, 2] rfl (b_X10_setQuota_J22 E T0 (by decide) (by decide) e M)
  · refine z_if_eqF (tgt := 22) E dX10_setQuota_5 rfl (zb_nf c1) ?_
    refine z_iload_n E 2 dX10_setQuota_8 rfl ?_
    refine z_iconst E dX10_setQuota_9 ic_0 ?_
    refine z_bipush E dX10_setQuota_10 bp_99 ?_
    refine z_kR2 (st := [.ref a0]) (av := [.int a2, .int (0 : Int32), .int (99 : Int32)]) E 0 0 (z_rS (st := [.ref a0]) (av := [.int a2, .int (0 : Int32), .int (99 : Int32)]) E Y_X10_in k_X10_62 (c_X10_in (l := z_l X) (h := h) (z_El E) a2 (0 : Int32) (99 : Int32)) dX10_setQuota_12 rfl rfl (by decide) (by decide) (by decide) (by decide) (Nat.le_of_ble_eq_true rfl)) rfl rfl rfl ?_
    rcases oi e with ⟨c2, e⟩ | ⟨c2, e⟩
    · refine z_if_eqT (tgt := 22) E dX10_setQuota_15 rfl (zb_f c2) ?_
      exact z_sub [0, 1, 2] rfl (b_X10_setQuota_J22 E T0 (by decide) (by decide) e M)
    · refine z_if_eqF (tgt := 22) E dX10_setQuota_15 rfl (zb_nf c2) ?_
      refine z_iconst E dX10_setQuota_18 ic_0 ?_
      refine z_goto (tgt := 23) E dX10_setQuota_19 rfl ?_
      exact z_sub [0, 1, 2] rfl (b_X10_setQuota_J23 E T0 (by decide) (by decide) e M)
theorem c_X10_setQuota {l : Launch} (hl : l.stackTraces = false) {h : PH} {a0 : Nat} {a1 : Int32} {a2 : Int32} {r : (Int32 × PH)} (e : f_X10_setQuota h a0 a1 a2 = some r) : CMet l yX10_setQuota (z_W yX10_setQuota cX10_setQuota 4 (some .int)) rmX10_setQuota h [.ref a0, .int a1, .int a2] (.inr (some (.int r.1))) r.2 :=
  z_met hl Y_X10_setQuota (by decide +kernel) (Nat.le_of_ble_eq_true rfl) (fun X hX E T0 M => b_X10_setQuota E T0 e M)
abbrev rmX9_needPage : Room := { frames := 6, cells := 1, slots := 6, locals := 92 }
noncomputable def f_X9_needPage (a0 : Int32) : (String ⊕ Unit) :=
  if (f_X9_isPage a0) = true then
    (Sum.inr ())
  else
    (Sum.inl "java/lang/IllegalArgumentException")
theorem b_X9_needPage {X : PX} (E : z_E X cX9_needPage RX9 "needPage" 1 rmX9_needPage none) (T0 : z_T0 X) {h : PH} {a0 : Int32} {r : (String ⊕ Unit)} (e : f_X9_needPage a0 = r) (M : z_M X rmX9_needPage.cells rmX9_needPage.slots (zoV r) h) : WP X 1 0 0 0 [(0, .int a0)] [] h := by
  unfold f_X9_needPage at e
  refine z_iload_n E 0 dX9_needPage_0 rfl ?_
  refine z_kR2 (st := []) (av := [.int a0]) E 0 0 (z_rS (st := []) (av := [.int a0]) E Y_X9_isPage k_X9_352 (c_X9_isPage (l := z_l X) (h := h) (z_El E) a0) dX9_needPage_1 rfl rfl (by decide) (by decide) (by decide) (by decide) (Nat.zero_le _)) rfl rfl rfl ?_
  rcases oi e with ⟨c1, e⟩ | ⟨c1, e⟩
  · refine z_if_neT (tgt := 18) E dX9_needPage_4 rfl (zb_t c1) ?_
    subst e
    exact z_vret E M dX9_needPage_18 rfl rfl rfl (by decide) (by decide)
  · refine z_if_neF (tgt := 18) E dX9_needPage_4 rfl (zb_nt c1) ?_
    subst e
    exact z_throw E 7 th_X9_232_355_236 T0 M dX9_needPage_7 dX9_needPage_10 (Or.inr ⟨dX9_needPage_11, rfl⟩) dX9_needPage_14 dX9_needPage_17 rfl rfl (by decide) (Nat.le_of_ble_eq_true rfl) (by decide) (by decide) (by decide) (by decide)
theorem c_X9_needPage {l : Launch} (hl : l.stackTraces = false) {h : PH} (a0 : Int32) : CMet l yX9_needPage (z_W yX9_needPage cX9_needPage 1 none) rmX9_needPage h [.int a0] (zoV (f_X9_needPage a0)) h :=
  z_met hl Y_X9_needPage (by decide +kernel) (Nat.le_of_ble_eq_true rfl) (fun X hX E T0 M => b_X9_needPage E T0 rfl M)
abbrev rmX9_current : Room := { frames := 7, cells := 1, slots := 6, locals := 112 }
noncomputable def f_X9_current (h : PH) (a0 : Nat) (a1 : Int32) : Option (String ⊕ Int32) :=
  Sum.elim
    (fun E1 =>
    some (Sum.inl E1))
    (fun y3 =>
    (rdR h a0 11 0).bind fun x4 =>
    (rdR h x4 9 5).bind fun x6 =>
    (alI .int h x6 a1).bind fun x8 =>
    some (Sum.inr x8)) (f_X9_needPage a1)
theorem b_X9_current {X : PX} (E : z_E X cX9_current RX9 "current" 2 rmX9_current (some .int)) (T0 : z_T0 X) {h : PH} {a0 : Nat} {a1 : Int32} {r : (String ⊕ Int32)} (e : f_X9_current h a0 a1 = some r) (M : z_M X rmX9_current.cells rmX9_current.slots (zoI r) h) : WP X 2 0 0 0 [(0, .ref a0), (1, .int a1)] [] h := by
  unfold f_X9_current at e
  refine z_iload_n E 1 dX9_current_0 rfl ?_
  rcases os e with ⟨E1, c2, e⟩ | ⟨y3, c2, e⟩
  · obtain rfl := Option.some.inj e
    refine z_kX2 (st := []) (av := [.int a1]) E 1 6 (z_rS (st := []) (av := [.int a1]) E Y_X9_needPage k_X9_130 (zc_o (c_X9_needPage (l := z_l X) (h := h) (z_El E) a1) (by rw [c2]; rfl)) dX9_current_1 rfl rfl (by decide) (by decide) (by decide) (by decide) (Nat.zero_le _)) rfl rfl rfl ?_
    exact z_outX E T0 M rfl rfl (by decide) (by decide)
  · refine z_kV2 (st := []) (av := [.int a1]) E 1 6 (z_rS (st := []) (av := [.int a1]) E Y_X9_needPage k_X9_130 (zc_o (c_X9_needPage (l := z_l X) (h := h) (z_El E) a1) (by rw [c2]; rfl)) dX9_current_1 rfl rfl (by decide) (by decide) (by decide) (by decide) (Nat.zero_le _)) rfl rfl rfl ?_
    refine z_aload_n E 0 dX9_current_4 rfl ?_
    obtain ⟨x4, e5, e⟩ := ob e
    refine z_getR E fl_X9_12 dX9_current_5 e5 ?_
    obtain ⟨x6, e7, e⟩ := ob e
    refine z_getR E fl_X9_133 dX9_current_8 e7 ?_
    refine z_iload_n E 1 dX9_current_11 rfl ?_
    obtain ⟨x8, e9, e⟩ := ob e
    refine z_iald E dX9_current_12 e9 ?_
    obtain rfl := Option.some.inj e
    exact z_iret E M dX9_current_13 rfl rfl rfl rfl (by decide) (by decide)
theorem c_X9_current {l : Launch} (hl : l.stackTraces = false) {h : PH} {a0 : Nat} {a1 : Int32} {r : (String ⊕ Int32)} (e : f_X9_current h a0 a1 = some r) : CMet l yX9_current (z_W yX9_current cX9_current 2 (some .int)) rmX9_current h [.ref a0, .int a1] (zoI r) h :=
  z_met hl Y_X9_current (by decide +kernel) (Nat.le_of_ble_eq_true rfl) (fun X hX E T0 M => b_X9_current E T0 e M)
abbrev rmL_current : Room := { frames := 8, cells := 1, slots := 6, locals := 133 }
noncomputable def f_L_current (h : PH) (a0 : Nat) (a1 : Int32) (a2 : Nat) : Option (Int32 × PH) :=
  (gd h a0 11).bind fun _ =>
  (f_X9_current h a0 a1).bind fun p2 =>
  Sum.elim
    (fun E4 =>
    if E4 = "java/lang/IllegalArgumentException" then
      some ((1 : Int32), h)
    else none)
    (fun y6 =>
    (asL h a2 (0 : Int32) y6.toInt64).bind fun h8 =>
    some ((0 : Int32), h8)) p2
theorem b_L_current {X : PX} (E : z_E X cL_current RL "current" 4 rmL_current (some .int)) (TT : z_TT X [(0, 9, 12, 13)]) {h : PH} {a0 : Nat} {a1 : Int32} {a2 : Nat} {r : (Int32 × PH)} (e : f_L_current h a0 a1 a2 = some r) (M : z_M X rmL_current.cells rmL_current.slots (.inr (some (.int r.1))) r.2) : WP X 4 0 0 0 [(0, .ref a0), (1, .int a1), (2, .ref a2)] [] h := by
  unfold f_L_current at e
  refine z_aload_n E 2 dL_current_0 rfl ?_
  refine z_iconst E dL_current_1 ic_0 ?_
  refine z_aload_n E 0 dL_current_2 rfl ?_
  refine z_iload_n E 1 dL_current_3 rfl ?_
  obtain ⟨_, e1, e⟩ := ob e
  obtain ⟨p2, e3, e⟩ := ob e
  rcases os e with ⟨E4, c5, e⟩ | ⟨y6, c5, e⟩
  · rcases oi e with ⟨c7, e⟩ | ⟨c7, e⟩
    · subst c7
      refine z_kX2 (st := [.int (0 : Int32), .ref a2]) (av := [.ref a0, .int a1]) E 1 6 (z_rV (st := [.int (0 : Int32), .ref a2]) (av := [.int a1]) E Y_X9_current k_L_58 (ci := 11) rfl (zc_o (c_X9_current (z_El E) e3) (by rw [c5]; rfl)) dL_current_4 e1 rfl rfl (by decide) (by decide) (by decide) (by decide) (Nat.le_of_ble_eq_true rfl)) rfl rfl rfl ?_
      refine z_catch (lv2 := [(0, .ref a0), (1, .int a1), (2, .ref a2)]) E TT 0 (q := (0, 9, 12, 13)) rfl rfl (by decide) cl_L_13 kb_IllegalArgumentException (fun z hz => nomatch hz) (Or.inl ⟨_, dL_current_12, rfl, rfl⟩) (by decide) rfl ?_
      refine z_iconst E dL_current_13 ic_1 ?_
      obtain rfl := Option.some.inj e
      exact z_iret E M dL_current_14 rfl rfl rfl rfl (by decide) (by decide)
    cases e
  · refine z_kR2 (st := [.int (0 : Int32), .ref a2]) (av := [.ref a0, .int a1]) E 1 6 (z_rV (st := [.int (0 : Int32), .ref a2]) (av := [.int a1]) E Y_X9_current k_L_58 (ci := 11) rfl (zc_o (c_X9_current (z_El E) e3) (by rw [c5]; rfl)) dL_current_4 e1 rfl rfl (by decide) (by decide) (by decide) (by decide) (Nat.le_of_ble_eq_true rfl)) rfl rfl rfl ?_
    refine z_i2l (v := y6.toInt64) E dL_current_7 rfl ?_
    obtain ⟨h8, e9, e⟩ := ob e
    refine z_last E dL_current_8 e9 ?_
    refine z_goto (tgt := 15) E dL_current_9 rfl ?_
    refine z_iconst E dL_current_15 ic_0 ?_
    obtain rfl := Option.some.inj e
    exact z_iret E M dL_current_16 rfl rfl rfl rfl (by decide) (by decide)
theorem c_L_current {l : Launch} (hl : l.stackTraces = false) {h : PH} {a0 : Nat} {a1 : Int32} {a2 : Nat} {r : (Int32 × PH)} (e : f_L_current h a0 a1 a2 = some r) : CMet l yL_current (z_WH yL_current cL_current 4 (some .int) [(0, 9, 12, 13)]) rmL_current h [.ref a0, .int a1, .ref a2] (.inr (some (.int r.1))) r.2 :=
  z_metH hl Y_L_current (by decide +kernel) (Nat.le_of_ble_eq_true rfl) (fun X hX E T0 M => b_L_current E T0 e M)
abbrev rmX10_ofPage : Room := { frames := 2, cells := 0, slots := 0, locals := 42 }
noncomputable def f_X10_ofPage (h : PH) (a0 : Nat) (a1 : Int32) (a2 : Int32) : Option (Int32 × PH) :=
  if (f_X10_isPage a1) = false then
    (gd h a0 12).bind fun _ =>
    (f_X10_fails h a0 (1 : Int32)).bind fun p3 =>
    if p3.1 = false then
      (rdR p3.2 a0 12 0).bind fun x6 =>
      (alI .int p3.2 x6 (a2 + a1)).bind fun x8 =>
      some (x8, p3.2)
    else
      some ((0 : Int32), p3.2)
  else
    (gd h a0 12).bind fun _ =>
    (f_X10_fails h a0 (0 : Int32)).bind fun p11 =>
    if p11.1 = false then
      (rdR p11.2 a0 12 0).bind fun x14 =>
      (alI .int p11.2 x14 (a2 + a1)).bind fun x16 =>
      some (x16, p11.2)
    else
      some ((0 : Int32), p11.2)
theorem b_X10_ofPage {X : PX} (E : z_E X cX10_ofPage RX10 "ofPage" 3 rmX10_ofPage (some .int)) (T0 : z_T0 X) {h : PH} {a0 : Nat} {a1 : Int32} {a2 : Int32} {r : (Int32 × PH)} (e : f_X10_ofPage h a0 a1 a2 = some r) (M : z_M X rmX10_ofPage.cells rmX10_ofPage.slots (.inr (some (.int r.1))) r.2) : WP X 3 0 0 0 [(0, .ref a0), (1, .int a1), (2, .int a2)] [] h := by
  unfold f_X10_ofPage at e
  refine z_aload_n E 0 dX10_ofPage_0 rfl ?_
  refine z_iload_n E 1 dX10_ofPage_1 rfl ?_
  refine z_kR2 (st := [.ref a0]) (av := [.int a1]) E 0 0 (z_rS (st := [.ref a0]) (av := [.int a1]) E Y_X10_isPage k_X10_77 (c_X10_isPage (l := z_l X) (h := h) (z_El E) a1) dX10_ofPage_2 rfl rfl (by decide) (by decide) (by decide) (by decide) (Nat.le_of_ble_eq_true rfl)) rfl rfl rfl ?_
  rcases oi e with ⟨c1, e⟩ | ⟨c1, e⟩
  · refine z_if_eqT (tgt := 12) E dX10_ofPage_5 rfl (zb_f c1) ?_
    refine z_iconst E dX10_ofPage_12 ic_1 ?_
    obtain ⟨_, e2, e⟩ := ob e
    obtain ⟨p3, e4, e⟩ := ob e
    refine z_kR2 (st := []) (av := [.ref a0, .int (1 : Int32)]) E 0 0 (z_rV (st := []) (av := [.int (1 : Int32)]) E Y_X10_fails k_X10_70 (ci := 12) rfl (c_X10_fails (z_El E) e4) dX10_ofPage_13 e2 rfl rfl (by decide) (by decide) (by decide) (by decide) (Nat.zero_le _)) rfl rfl rfl ?_
    rcases oi e with ⟨c5, e⟩ | ⟨c5, e⟩
    · refine z_if_eqT (tgt := 23) E dX10_ofPage_16 rfl (zb_f c5) ?_
      refine z_aload_n E 0 dX10_ofPage_23 rfl ?_
      obtain ⟨x6, e7, e⟩ := ob e
      refine z_getR E fl_X10_7 dX10_ofPage_24 e7 ?_
      refine z_iload_n E 2 dX10_ofPage_27 rfl ?_
      refine z_iload_n E 1 dX10_ofPage_28 rfl ?_
      refine z_iadd E dX10_ofPage_29 ?_
      obtain ⟨x8, e9, e⟩ := ob e
      refine z_iald E dX10_ofPage_30 e9 ?_
      obtain rfl := Option.some.inj e
      exact z_iret E M dX10_ofPage_31 rfl rfl rfl rfl (by decide) (by decide)
    · refine z_if_eqF (tgt := 23) E dX10_ofPage_16 rfl (zb_nf c5) ?_
      refine z_iconst E dX10_ofPage_19 ic_0 ?_
      refine z_goto (tgt := 31) E dX10_ofPage_20 rfl ?_
      obtain rfl := Option.some.inj e
      exact z_iret E M dX10_ofPage_31 rfl rfl rfl rfl (by decide) (by decide)
  · refine z_if_eqF (tgt := 12) E dX10_ofPage_5 rfl (zb_nf c1) ?_
    refine z_iconst E dX10_ofPage_8 ic_0 ?_
    refine z_goto (tgt := 13) E dX10_ofPage_9 rfl ?_
    obtain ⟨_, e10, e⟩ := ob e
    obtain ⟨p11, e12, e⟩ := ob e
    refine z_kR2 (st := []) (av := [.ref a0, .int (0 : Int32)]) E 0 0 (z_rV (st := []) (av := [.int (0 : Int32)]) E Y_X10_fails k_X10_70 (ci := 12) rfl (c_X10_fails (z_El E) e12) dX10_ofPage_13 e10 rfl rfl (by decide) (by decide) (by decide) (by decide) (Nat.zero_le _)) rfl rfl rfl ?_
    rcases oi e with ⟨c13, e⟩ | ⟨c13, e⟩
    · refine z_if_eqT (tgt := 23) E dX10_ofPage_16 rfl (zb_f c13) ?_
      refine z_aload_n E 0 dX10_ofPage_23 rfl ?_
      obtain ⟨x14, e15, e⟩ := ob e
      refine z_getR E fl_X10_7 dX10_ofPage_24 e15 ?_
      refine z_iload_n E 2 dX10_ofPage_27 rfl ?_
      refine z_iload_n E 1 dX10_ofPage_28 rfl ?_
      refine z_iadd E dX10_ofPage_29 ?_
      obtain ⟨x16, e17, e⟩ := ob e
      refine z_iald E dX10_ofPage_30 e17 ?_
      obtain rfl := Option.some.inj e
      exact z_iret E M dX10_ofPage_31 rfl rfl rfl rfl (by decide) (by decide)
    · refine z_if_eqF (tgt := 23) E dX10_ofPage_16 rfl (zb_nf c13) ?_
      refine z_iconst E dX10_ofPage_19 ic_0 ?_
      refine z_goto (tgt := 31) E dX10_ofPage_20 rfl ?_
      obtain rfl := Option.some.inj e
      exact z_iret E M dX10_ofPage_31 rfl rfl rfl rfl (by decide) (by decide)
theorem c_X10_ofPage {l : Launch} (hl : l.stackTraces = false) {h : PH} {a0 : Nat} {a1 : Int32} {a2 : Int32} {r : (Int32 × PH)} (e : f_X10_ofPage h a0 a1 a2 = some r) : CMet l yX10_ofPage (z_W yX10_ofPage cX10_ofPage 3 (some .int)) rmX10_ofPage h [.ref a0, .int a1, .int a2] (.inr (some (.int r.1))) r.2 :=
  z_met hl Y_X10_ofPage (by decide +kernel) (Nat.le_of_ble_eq_true rfl) (fun X hX E T0 M => b_X10_ofPage E T0 e M)
abbrev rmX10_current : Room := { frames := 3, cells := 0, slots := 0, locals := 64 }
noncomputable def f_X10_current (h : PH) (a0 : Nat) (a1 : Int32) : Option (Int32 × PH) :=
  (gd h a0 12).bind fun _ =>
  (f_X10_ofPage h a0 a1 (8 : Int32)).bind fun p2 =>
  some (p2.1, p2.2)
theorem b_X10_current {X : PX} (E : z_E X cX10_current RX10 "current" 2 rmX10_current (some .int)) (T0 : z_T0 X) {h : PH} {a0 : Nat} {a1 : Int32} {r : (Int32 × PH)} (e : f_X10_current h a0 a1 = some r) (M : z_M X rmX10_current.cells rmX10_current.slots (.inr (some (.int r.1))) r.2) : WP X 2 0 0 0 [(0, .ref a0), (1, .int a1)] [] h := by
  unfold f_X10_current at e
  refine z_aload_n E 0 dX10_current_0 rfl ?_
  refine z_iload_n E 1 dX10_current_1 rfl ?_
  refine z_bipush E dX10_current_2 bp_8 ?_
  obtain ⟨_, e1, e⟩ := ob e
  obtain ⟨p2, e3, e⟩ := ob e
  refine z_kR2 (st := []) (av := [.ref a0, .int a1, .int (8 : Int32)]) E 0 0 (z_rV (st := []) (av := [.int a1, .int (8 : Int32)]) E Y_X10_ofPage k_X10_133 (ci := 12) rfl (c_X10_ofPage (z_El E) e3) dX10_current_4 e1 rfl rfl (by decide) (by decide) (by decide) (by decide) (Nat.zero_le _)) rfl rfl rfl ?_
  obtain rfl := Option.some.inj e
  exact z_iret E M dX10_current_7 rfl rfl rfl rfl (by decide) (by decide)
theorem c_X10_current {l : Launch} (hl : l.stackTraces = false) {h : PH} {a0 : Nat} {a1 : Int32} {r : (Int32 × PH)} (e : f_X10_current h a0 a1 = some r) : CMet l yX10_current (z_W yX10_current cX10_current 2 (some .int)) rmX10_current h [.ref a0, .int a1] (.inr (some (.int r.1))) r.2 :=
  z_met hl Y_X10_current (by decide +kernel) (Nat.le_of_ble_eq_true rfl) (fun X hX E T0 M => b_X10_current E T0 e M)
abbrev rmX9_quota : Room := { frames := 7, cells := 1, slots := 6, locals := 112 }
noncomputable def f_X9_quota (h : PH) (a0 : Nat) (a1 : Int32) : Option (String ⊕ Int32) :=
  Sum.elim
    (fun E1 =>
    some (Sum.inl E1))
    (fun y3 =>
    (rdR h a0 11 0).bind fun x4 =>
    (rdR h x4 9 6).bind fun x6 =>
    (alI .int h x6 a1).bind fun x8 =>
    some (Sum.inr x8)) (f_X9_needPage a1)
theorem b_X9_quota {X : PX} (E : z_E X cX9_quota RX9 "quota" 2 rmX9_quota (some .int)) (T0 : z_T0 X) {h : PH} {a0 : Nat} {a1 : Int32} {r : (String ⊕ Int32)} (e : f_X9_quota h a0 a1 = some r) (M : z_M X rmX9_quota.cells rmX9_quota.slots (zoI r) h) : WP X 2 0 0 0 [(0, .ref a0), (1, .int a1)] [] h := by
  unfold f_X9_quota at e
  refine z_iload_n E 1 dX9_quota_0 rfl ?_
  rcases os e with ⟨E1, c2, e⟩ | ⟨y3, c2, e⟩
  · obtain rfl := Option.some.inj e
    refine z_kX2 (st := []) (av := [.int a1]) E 1 6 (z_rS (st := []) (av := [.int a1]) E Y_X9_needPage k_X9_130 (zc_o (c_X9_needPage (l := z_l X) (h := h) (z_El E) a1) (by rw [c2]; rfl)) dX9_quota_1 rfl rfl (by decide) (by decide) (by decide) (by decide) (Nat.zero_le _)) rfl rfl rfl ?_
    exact z_outX E T0 M rfl rfl (by decide) (by decide)
  · refine z_kV2 (st := []) (av := [.int a1]) E 1 6 (z_rS (st := []) (av := [.int a1]) E Y_X9_needPage k_X9_130 (zc_o (c_X9_needPage (l := z_l X) (h := h) (z_El E) a1) (by rw [c2]; rfl)) dX9_quota_1 rfl rfl (by decide) (by decide) (by decide) (by decide) (Nat.zero_le _)) rfl rfl rfl ?_
    refine z_aload_n E 0 dX9_quota_4 rfl ?_
    obtain ⟨x4, e5, e⟩ := ob e
    refine z_getR E fl_X9_12 dX9_quota_5 e5 ?_
    obtain ⟨x6, e7, e⟩ := ob e
    refine z_getR E fl_X9_136 dX9_quota_8 e7 ?_
    refine z_iload_n E 1 dX9_quota_11 rfl ?_
    obtain ⟨x8, e9, e⟩ := ob e
    refine z_iald E dX9_quota_12 e9 ?_
    obtain rfl := Option.some.inj e
    exact z_iret E M dX9_quota_13 rfl rfl rfl rfl (by decide) (by decide)
theorem c_X9_quota {l : Launch} (hl : l.stackTraces = false) {h : PH} {a0 : Nat} {a1 : Int32} {r : (String ⊕ Int32)} (e : f_X9_quota h a0 a1 = some r) : CMet l yX9_quota (z_W yX9_quota cX9_quota 2 (some .int)) rmX9_quota h [.ref a0, .int a1] (zoI r) h :=
  z_met hl Y_X9_quota (by decide +kernel) (Nat.le_of_ble_eq_true rfl) (fun X hX E T0 M => b_X9_quota E T0 e M)
abbrev rmL_quota : Room := { frames := 8, cells := 1, slots := 6, locals := 133 }
noncomputable def f_L_quota (h : PH) (a0 : Nat) (a1 : Int32) (a2 : Nat) : Option (Int32 × PH) :=
  (gd h a0 11).bind fun _ =>
  (f_X9_quota h a0 a1).bind fun p2 =>
  Sum.elim
    (fun E4 =>
    if E4 = "java/lang/IllegalArgumentException" then
      some ((1 : Int32), h)
    else none)
    (fun y6 =>
    (asL h a2 (0 : Int32) y6.toInt64).bind fun h8 =>
    some ((0 : Int32), h8)) p2
theorem b_L_quota {X : PX} (E : z_E X cL_quota RL "quota" 4 rmL_quota (some .int)) (TT : z_TT X [(0, 9, 12, 13)]) {h : PH} {a0 : Nat} {a1 : Int32} {a2 : Nat} {r : (Int32 × PH)} (e : f_L_quota h a0 a1 a2 = some r) (M : z_M X rmL_quota.cells rmL_quota.slots (.inr (some (.int r.1))) r.2) : WP X 4 0 0 0 [(0, .ref a0), (1, .int a1), (2, .ref a2)] [] h := by
  unfold f_L_quota at e
  refine z_aload_n E 2 dL_quota_0 rfl ?_
  refine z_iconst E dL_quota_1 ic_0 ?_
  refine z_aload_n E 0 dL_quota_2 rfl ?_
  refine z_iload_n E 1 dL_quota_3 rfl ?_
  obtain ⟨_, e1, e⟩ := ob e
  obtain ⟨p2, e3, e⟩ := ob e
  rcases os e with ⟨E4, c5, e⟩ | ⟨y6, c5, e⟩
  · rcases oi e with ⟨c7, e⟩ | ⟨c7, e⟩
    · subst c7
      refine z_kX2 (st := [.int (0 : Int32), .ref a2]) (av := [.ref a0, .int a1]) E 1 6 (z_rV (st := [.int (0 : Int32), .ref a2]) (av := [.int a1]) E Y_X9_quota k_L_61 (ci := 11) rfl (zc_o (c_X9_quota (z_El E) e3) (by rw [c5]; rfl)) dL_quota_4 e1 rfl rfl (by decide) (by decide) (by decide) (by decide) (Nat.le_of_ble_eq_true rfl)) rfl rfl rfl ?_
      refine z_catch (lv2 := [(0, .ref a0), (1, .int a1), (2, .ref a2)]) E TT 0 (q := (0, 9, 12, 13)) rfl rfl (by decide) cl_L_13 kb_IllegalArgumentException (fun z hz => nomatch hz) (Or.inl ⟨_, dL_quota_12, rfl, rfl⟩) (by decide) rfl ?_
      refine z_iconst E dL_quota_13 ic_1 ?_
      obtain rfl := Option.some.inj e
      exact z_iret E M dL_quota_14 rfl rfl rfl rfl (by decide) (by decide)
    cases e
  · refine z_kR2 (st := [.int (0 : Int32), .ref a2]) (av := [.ref a0, .int a1]) E 1 6 (z_rV (st := [.int (0 : Int32), .ref a2]) (av := [.int a1]) E Y_X9_quota k_L_61 (ci := 11) rfl (zc_o (c_X9_quota (z_El E) e3) (by rw [c5]; rfl)) dL_quota_4 e1 rfl rfl (by decide) (by decide) (by decide) (by decide) (Nat.le_of_ble_eq_true rfl)) rfl rfl rfl ?_
    refine z_i2l (v := y6.toInt64) E dL_quota_7 rfl ?_
    obtain ⟨h8, e9, e⟩ := ob e
    refine z_last E dL_quota_8 e9 ?_
    refine z_goto (tgt := 15) E dL_quota_9 rfl ?_
    refine z_iconst E dL_quota_15 ic_0 ?_
    obtain rfl := Option.some.inj e
    exact z_iret E M dL_quota_16 rfl rfl rfl rfl (by decide) (by decide)
theorem c_L_quota {l : Launch} (hl : l.stackTraces = false) {h : PH} {a0 : Nat} {a1 : Int32} {a2 : Nat} {r : (Int32 × PH)} (e : f_L_quota h a0 a1 a2 = some r) : CMet l yL_quota (z_WH yL_quota cL_quota 4 (some .int) [(0, 9, 12, 13)]) rmL_quota h [.ref a0, .int a1, .ref a2] (.inr (some (.int r.1))) r.2 :=
  z_metH hl Y_L_quota (by decide +kernel) (Nat.le_of_ble_eq_true rfl) (fun X hX E T0 M => b_L_quota E T0 e M)
abbrev rmX10_quota : Room := { frames := 3, cells := 0, slots := 0, locals := 64 }
noncomputable def f_X10_quota (h : PH) (a0 : Nat) (a1 : Int32) : Option (Int32 × PH) :=
  (gd h a0 12).bind fun _ =>
  (f_X10_ofPage h a0 a1 (20 : Int32)).bind fun p2 =>
  some (p2.1, p2.2)
theorem b_X10_quota {X : PX} (E : z_E X cX10_quota RX10 "quota" 2 rmX10_quota (some .int)) (T0 : z_T0 X) {h : PH} {a0 : Nat} {a1 : Int32} {r : (Int32 × PH)} (e : f_X10_quota h a0 a1 = some r) (M : z_M X rmX10_quota.cells rmX10_quota.slots (.inr (some (.int r.1))) r.2) : WP X 2 0 0 0 [(0, .ref a0), (1, .int a1)] [] h := by
  unfold f_X10_quota at e
  refine z_aload_n E 0 dX10_quota_0 rfl ?_
  refine z_iload_n E 1 dX10_quota_1 rfl ?_
  refine z_bipush E dX10_quota_2 bp_20 ?_
  obtain ⟨_, e1, e⟩ := ob e
  obtain ⟨p2, e3, e⟩ := ob e
  refine z_kR2 (st := []) (av := [.ref a0, .int a1, .int (20 : Int32)]) E 0 0 (z_rV (st := []) (av := [.int a1, .int (20 : Int32)]) E Y_X10_ofPage k_X10_133 (ci := 12) rfl (c_X10_ofPage (z_El E) e3) dX10_quota_4 e1 rfl rfl (by decide) (by decide) (by decide) (by decide) (Nat.zero_le _)) rfl rfl rfl ?_
  obtain rfl := Option.some.inj e
  exact z_iret E M dX10_quota_7 rfl rfl rfl rfl (by decide) (by decide)
theorem c_X10_quota {l : Launch} (hl : l.stackTraces = false) {h : PH} {a0 : Nat} {a1 : Int32} {r : (Int32 × PH)} (e : f_X10_quota h a0 a1 = some r) : CMet l yX10_quota (z_W yX10_quota cX10_quota 2 (some .int)) rmX10_quota h [.ref a0, .int a1] (.inr (some (.int r.1))) r.2 :=
  z_met hl Y_X10_quota (by decide +kernel) (Nat.le_of_ble_eq_true rfl) (fun X hX E T0 M => b_X10_quota E T0 e M)
abbrev rmX9_room : Room := { frames := 7, cells := 1, slots := 6, locals := 112 }
noncomputable def f_X9_room (h : PH) (a0 : Nat) (a1 : Int32) : Option (String ⊕ Int32) :=
  Sum.elim
    (fun E1 =>
    some (Sum.inl E1))
    (fun y3 =>
    (rdR h a0 11 0).bind fun x4 =>
    (gd h x4 9).bind fun _ =>
    (f_X7_roomOn h x4 a1).bind fun p7 =>
    some (Sum.inr p7)) (f_X9_needPage a1)
theorem b_X9_room {X : PX} (E : z_E X cX9_room RX9 "room" 2 rmX9_room (some .int)) (T0 : z_T0 X) {h : PH} {a0 : Nat} {a1 : Int32} {r : (String ⊕ Int32)} (e : f_X9_room h a0 a1 = some r) (M : z_M X rmX9_room.cells rmX9_room.slots (zoI r) h) : WP X 2 0 0 0 [(0, .ref a0), (1, .int a1)] [] h := by
  unfold f_X9_room at e
  refine z_iload_n E 1 dX9_room_0 rfl ?_
  rcases os e with ⟨E1, c2, e⟩ | ⟨y3, c2, e⟩
  · obtain rfl := Option.some.inj e
    refine z_kX2 (st := []) (av := [.int a1]) E 1 6 (z_rS (st := []) (av := [.int a1]) E Y_X9_needPage k_X9_130 (zc_o (c_X9_needPage (l := z_l X) (h := h) (z_El E) a1) (by rw [c2]; rfl)) dX9_room_1 rfl rfl (by decide) (by decide) (by decide) (by decide) (Nat.zero_le _)) rfl rfl rfl ?_
    exact z_outX E T0 M rfl rfl (by decide) (by decide)
  · refine z_kV2 (st := []) (av := [.int a1]) E 1 6 (z_rS (st := []) (av := [.int a1]) E Y_X9_needPage k_X9_130 (zc_o (c_X9_needPage (l := z_l X) (h := h) (z_El E) a1) (by rw [c2]; rfl)) dX9_room_1 rfl rfl (by decide) (by decide) (by decide) (by decide) (Nat.zero_le _)) rfl rfl rfl ?_
    refine z_aload_n E 0 dX9_room_4 rfl ?_
    obtain ⟨x4, e5, e⟩ := ob e
    refine z_getR E fl_X9_12 dX9_room_5 e5 ?_
    refine z_iload_n E 1 dX9_room_8 rfl ?_
    obtain ⟨_, e6, e⟩ := ob e
    obtain ⟨p7, e8, e⟩ := ob e
    refine z_kR2 (st := []) (av := [.ref x4, .int a1]) E 1 6 (z_rV (st := []) (av := [.int a1]) E Y_X7_roomOn k_X9_139 (ci := 9) rfl (c_X7_roomOn (z_El E) e8) dX9_room_9 e6 rfl rfl (by decide) (by decide) (by decide) (by decide) (Nat.zero_le _)) rfl rfl rfl ?_
    obtain rfl := Option.some.inj e
    exact z_iret E M dX9_room_12 rfl rfl rfl rfl (by decide) (by decide)
theorem c_X9_room {l : Launch} (hl : l.stackTraces = false) {h : PH} {a0 : Nat} {a1 : Int32} {r : (String ⊕ Int32)} (e : f_X9_room h a0 a1 = some r) : CMet l yX9_room (z_W yX9_room cX9_room 2 (some .int)) rmX9_room h [.ref a0, .int a1] (zoI r) h :=
  z_met hl Y_X9_room (by decide +kernel) (Nat.le_of_ble_eq_true rfl) (fun X hX E T0 M => b_X9_room E T0 e M)
abbrev rmL_room : Room := { frames := 8, cells := 1, slots := 6, locals := 133 }
noncomputable def f_L_room (h : PH) (a0 : Nat) (a1 : Int32) (a2 : Nat) : Option (Int32 × PH) :=
  (gd h a0 11).bind fun _ =>
  (f_X9_room h a0 a1).bind fun p2 =>
  Sum.elim
    (fun E4 =>
    if E4 = "java/lang/IllegalArgumentException" then
      some ((1 : Int32), h)
    else none)
    (fun y6 =>
    (asL h a2 (0 : Int32) y6.toInt64).bind fun h8 =>
    some ((0 : Int32), h8)) p2
theorem b_L_room {X : PX} (E : z_E X cL_room RL "room" 4 rmL_room (some .int)) (TT : z_TT X [(0, 9, 12, 13)]) {h : PH} {a0 : Nat} {a1 : Int32} {a2 : Nat} {r : (Int32 × PH)} (e : f_L_room h a0 a1 a2 = some r) (M : z_M X rmL_room.cells rmL_room.slots (.inr (some (.int r.1))) r.2) : WP X 4 0 0 0 [(0, .ref a0), (1, .int a1), (2, .ref a2)] [] h := by
  unfold f_L_room at e
  refine z_aload_n E 2 dL_room_0 rfl ?_
  refine z_iconst E dL_room_1 ic_0 ?_
  refine z_aload_n E 0 dL_room_2 rfl ?_
  refine z_iload_n E 1 dL_room_3 rfl ?_
  obtain ⟨_, e1, e⟩ := ob e
  obtain ⟨p2, e3, e⟩ := ob e
  rcases os e with ⟨E4, c5, e⟩ | ⟨y6, c5, e⟩
  · rcases oi e with ⟨c7, e⟩ | ⟨c7, e⟩
    · subst c7
      refine z_kX2 (st := [.int (0 : Int32), .ref a2]) (av := [.ref a0, .int a1]) E 1 6 (z_rV (st := [.int (0 : Int32), .ref a2]) (av := [.int a1]) E Y_X9_room k_L_64 (ci := 11) rfl (zc_o (c_X9_room (z_El E) e3) (by rw [c5]; rfl)) dL_room_4 e1 rfl rfl (by decide) (by decide) (by decide) (by decide) (Nat.le_of_ble_eq_true rfl)) rfl rfl rfl ?_
      refine z_catch (lv2 := [(0, .ref a0), (1, .int a1), (2, .ref a2)]) E TT 0 (q := (0, 9, 12, 13)) rfl rfl (by decide) cl_L_13 kb_IllegalArgumentException (fun z hz => nomatch hz) (Or.inl ⟨_, dL_room_12, rfl, rfl⟩) (by decide) rfl ?_
      refine z_iconst E dL_room_13 ic_1 ?_
      obtain rfl := Option.some.inj e
      exact z_iret E M dL_room_14 rfl rfl rfl rfl (by decide) (by decide)
    cases e
  · refine z_kR2 (st := [.int (0 : Int32), .ref a2]) (av := [.ref a0, .int a1]) E 1 6 (z_rV (st := [.int (0 : Int32), .ref a2]) (av := [.int a1]) E Y_X9_room k_L_64 (ci := 11) rfl (zc_o (c_X9_room (z_El E) e3) (by rw [c5]; rfl)) dL_room_4 e1 rfl rfl (by decide) (by decide) (by decide) (by decide) (Nat.le_of_ble_eq_true rfl)) rfl rfl rfl ?_
    refine z_i2l (v := y6.toInt64) E dL_room_7 rfl ?_
    obtain ⟨h8, e9, e⟩ := ob e
    refine z_last E dL_room_8 e9 ?_
    refine z_goto (tgt := 15) E dL_room_9 rfl ?_
    refine z_iconst E dL_room_15 ic_0 ?_
    obtain rfl := Option.some.inj e
    exact z_iret E M dL_room_16 rfl rfl rfl rfl (by decide) (by decide)
theorem c_L_room {l : Launch} (hl : l.stackTraces = false) {h : PH} {a0 : Nat} {a1 : Int32} {a2 : Nat} {r : (Int32 × PH)} (e : f_L_room h a0 a1 a2 = some r) : CMet l yL_room (z_WH yL_room cL_room 4 (some .int) [(0, 9, 12, 13)]) rmL_room h [.ref a0, .int a1, .ref a2] (.inr (some (.int r.1))) r.2 :=
  z_metH hl Y_L_room (by decide +kernel) (Nat.le_of_ble_eq_true rfl) (fun X hX E T0 M => b_L_room E T0 e M)
abbrev rmX10_seasonNow : Room := { frames := 0, cells := 0, slots := 0, locals := 0 }
noncomputable def f_X10_seasonNow (h : PH) (a0 : Nat) : Option Int32 :=
  (rdR h a0 12 0).bind fun x1 =>
  (alI .int h x1 (2 : Int32)).bind fun x3 =>
  some (zrem (x3 / (30 : Int32)) (4 : Int32))
theorem b_X10_seasonNow {X : PX} (E : z_E X cX10_seasonNow RX10 "seasonNow" 1 rmX10_seasonNow (some .int)) (T0 : z_T0 X) {h : PH} {a0 : Nat} {r : Int32} (e : f_X10_seasonNow h a0 = some r) (M : z_M X rmX10_seasonNow.cells rmX10_seasonNow.slots (.inr (some (.int r))) h) : WP X 1 0 0 0 [(0, .ref a0)] [] h := by
  unfold f_X10_seasonNow at e
  refine z_aload_n E 0 dX10_seasonNow_0 rfl ?_
  obtain ⟨x1, e2, e⟩ := ob e
  refine z_getR E fl_X10_7 dX10_seasonNow_1 e2 ?_
  refine z_iconst E dX10_seasonNow_4 ic_2 ?_
  obtain ⟨x3, e4, e⟩ := ob e
  refine z_iald E dX10_seasonNow_5 e4 ?_
  refine z_bipush E dX10_seasonNow_6 bp_30 ?_
  refine z_idiv E dX10_seasonNow_8 (by decide) ?_
  refine z_iconst E dX10_seasonNow_9 ic_4 ?_
  refine z_irem E dX10_seasonNow_10 (by decide) ?_
  obtain rfl := Option.some.inj e
  exact z_iret E M dX10_seasonNow_11 rfl rfl rfl rfl (by decide) (by decide)
theorem c_X10_seasonNow {l : Launch} (hl : l.stackTraces = false) {h : PH} {a0 : Nat} {r : Int32} (e : f_X10_seasonNow h a0 = some r) : CMet l yX10_seasonNow (z_W yX10_seasonNow cX10_seasonNow 1 (some .int)) rmX10_seasonNow h [.ref a0] (.inr (some (.int r))) h :=
  z_met hl Y_X10_seasonNow (by decide +kernel) (Nat.le_of_ble_eq_true rfl) (fun X hX E T0 M => b_X10_seasonNow E T0 e M)
abbrev rmX10_roomOn : Room := { frames := 1, cells := 0, slots := 0, locals := 20 }
noncomputable def f_X10_roomOn_J13 (h : PH) (v0 : Nat) (v1 : Int32) (w0 : Int32) : Option Int32 :=
  (rdR h v0 12 0).bind fun x1 =>
  (alI .int h x1 ((20 : Int32) + v1)).bind fun x3 =>
  (rdR h v0 12 0).bind fun x5 =>
  (alI .int h x5 ((32 : Int32) + v1)).bind fun x7 =>
  if ((w0 * x3) - x7) ≤ 0 then
    some (0 : Int32)
  else
    some ((w0 * x3) - x7)
theorem b_X10_roomOn_J13 {X : PX} (E : z_E X cX10_roomOn RX10 "roomOn" 3 rmX10_roomOn (some .int)) (T0 : z_T0 X) {k n : Nat} (hk : k + 0 ≤ rmX10_roomOn.cells) (hn : n + 0 ≤ rmX10_roomOn.slots) {h : PH} {v0 : Nat} {v1 : Int32} {w0 : Int32} {r : Int32} (e : f_X10_roomOn_J13 h v0 v1 w0 = some r) (M : z_M X rmX10_roomOn.cells rmX10_roomOn.slots (.inr (some (.int r))) h) : WP X 3 k n 13 [(0, .ref v0), (1, .int v1)] [.int w0] h := by
  unfold f_X10_roomOn_J13 at e
  refine z_aload_n E 0 dX10_roomOn_13 rfl ?_
  obtain ⟨x1, e2, e⟩ := ob e
  refine z_getR E fl_X10_7 dX10_roomOn_14 e2 ?_
  refine z_bipush E dX10_roomOn_17 bp_20 ?_
  refine z_iload_n E 1 dX10_roomOn_19 rfl ?_
  refine z_iadd E dX10_roomOn_20 ?_
  obtain ⟨x3, e4, e⟩ := ob e
  refine z_iald E dX10_roomOn_21 e4 ?_
  refine z_imul E dX10_roomOn_22 ?_
  refine z_aload_n E 0 dX10_roomOn_23 rfl ?_
  obtain ⟨x5, e6, e⟩ := ob e
  refine z_getR E fl_X10_7 dX10_roomOn_24 e6 ?_
  refine z_bipush E dX10_roomOn_27 bp_32 ?_
  refine z_iload_n E 1 dX10_roomOn_29 rfl ?_
  refine z_iadd E dX10_roomOn_30 ?_
  obtain ⟨x7, e8, e⟩ := ob e
  refine z_iald E dX10_roomOn_31 e8 ?_
  refine z_isub E dX10_roomOn_32 ?_
  refine z_istore_n (lv2 := [(2, .int ((w0 * x3) - x7)), (0, .ref v0), (1, .int v1)]) E dX10_roomOn_33 (by decide) rfl ?_
  refine z_iload_n E 0 dX10_roomOn_34 rfl ?_
  rcases oi e with ⟨c9, e⟩ | ⟨c9, e⟩
  · refine z_if_leT (tgt := 42) E dX10_roomOn_35 rfl c9 ?_
    refine z_iconst E dX10_roomOn_42 ic_0 ?_
    obtain rfl := Option.some.inj e
    exact z_iret E M dX10_roomOn_43 rfl rfl rfl rfl (zk (k := k) (a := 0) hk (by decide)) (zk (k := n) (a := 0) hn (by decide))
  · refine z_if_leF (tgt := 42) E dX10_roomOn_35 rfl c9 ?_
    refine z_iload_n E 0 dX10_roomOn_38 rfl ?_
    refine z_goto (tgt := 43) E dX10_roomOn_39 rfl ?_
    obtain rfl := Option.some.inj e
    exact z_iret E M dX10_roomOn_43 rfl rfl rfl rfl (zk (k := k) (a := 0) hk (by decide)) (zk (k := n) (a := 0) hn (by decide))
noncomputable def f_X10_roomOn (h : PH) (a0 : Nat) (a1 : Int32) : Option Int32 :=
  (gd h a0 12).bind fun _ =>
  (f_X10_seasonNow h a0).bind fun p2 =>
  if ¬ p2 = (2 : Int32) then
    f_X10_roomOn_J13 h a0 a1 (1 : Int32)
  else
    f_X10_roomOn_J13 h a0 a1 (2 : Int32)
theorem b_X10_roomOn {X : PX} (E : z_E X cX10_roomOn RX10 "roomOn" 3 rmX10_roomOn (some .int)) (T0 : z_T0 X) {h : PH} {a0 : Nat} {a1 : Int32} {r : Int32} (e : f_X10_roomOn h a0 a1 = some r) (M : z_M X rmX10_roomOn.cells rmX10_roomOn.slots (.inr (some (.int r))) h) : WP X 3 0 0 0 [(0, .ref a0), (1, .int a1)] [] h := by
  unfold f_X10_roomOn at e
  refine z_aload_n E 0 dX10_roomOn_0 rfl ?_
  obtain ⟨_, e1, e⟩ := ob e
  obtain ⟨p2, e3, e⟩ := ob e
  refine z_kR2 (st := []) (av := [.ref a0]) E 0 0 (z_rV (st := []) (av := []) E Y_X10_seasonNow k_X10_136 (ci := 12) rfl (c_X10_seasonNow (z_El E) e3) dX10_roomOn_1 e1 rfl rfl (by decide) (by decide) (by decide) (by decide) (Nat.zero_le _)) rfl rfl rfl ?_
  refine z_iconst E dX10_roomOn_4 ic_2 ?_
  rcases oi e with ⟨c4, e⟩ | ⟨c4, e⟩
  · refine z_icmp_neT (tgt := 12) E dX10_roomOn_5 rfl c4 ?_
    refine z_iconst E dX10_roomOn_12 ic_1 ?_
    exact z_sub [0, 1] rfl (b_X10_roomOn_J13 E T0 (by decide) (by decide) e M)
  · refine z_icmp_neF (tgt := 12) E dX10_roomOn_5 rfl (Classical.not_not.mp c4) ?_
    refine z_iconst E dX10_roomOn_8 ic_2 ?_
    refine z_goto (tgt := 13) E dX10_roomOn_9 rfl ?_
    exact z_sub [0, 1] rfl (b_X10_roomOn_J13 E T0 (by decide) (by decide) e M)
theorem c_X10_roomOn {l : Launch} (hl : l.stackTraces = false) {h : PH} {a0 : Nat} {a1 : Int32} {r : Int32} (e : f_X10_roomOn h a0 a1 = some r) : CMet l yX10_roomOn (z_W yX10_roomOn cX10_roomOn 3 (some .int)) rmX10_roomOn h [.ref a0, .int a1] (.inr (some (.int r))) h :=
  z_met hl Y_X10_roomOn (by decide +kernel) (Nat.le_of_ble_eq_true rfl) (fun X hX E T0 M => b_X10_roomOn E T0 e M)
abbrev rmX10_room : Room := { frames := 2, cells := 0, slots := 0, locals := 42 }
noncomputable def f_X10_room (h : PH) (a0 : Nat) (a1 : Int32) : Option (Int32 × PH) :=
  if (f_X10_isPage a1) = false then
    (gd h a0 12).bind fun _ =>
    (f_X10_fails h a0 (1 : Int32)).bind fun p3 =>
    if p3.1 = false then
      (gd p3.2 a0 12).bind fun _ =>
      (f_X10_roomOn p3.2 a0 a1).bind fun p7 =>
      some (p7, p3.2)
    else
      some ((0 : Int32), p3.2)
  else
    (gd h a0 12).bind fun _ =>
    (f_X10_fails h a0 (0 : Int32)).bind fun p10 =>
    if p10.1 = false then
      (gd p10.2 a0 12).bind fun _ =>
      (f_X10_roomOn p10.2 a0 a1).bind fun p14 =>
      some (p14, p10.2)
    else
      some ((0 : Int32), p10.2)
theorem b_X10_room {X : PX} (E : z_E X cX10_room RX10 "room" 2 rmX10_room (some .int)) (T0 : z_T0 X) {h : PH} {a0 : Nat} {a1 : Int32} {r : (Int32 × PH)} (e : f_X10_room h a0 a1 = some r) (M : z_M X rmX10_room.cells rmX10_room.slots (.inr (some (.int r.1))) r.2) : WP X 2 0 0 0 [(0, .ref a0), (1, .int a1)] [] h := by
  unfold f_X10_room at e
  refine z_aload_n E 0 dX10_room_0 rfl ?_
  refine z_iload_n E 1 dX10_room_1 rfl ?_
  refine z_kR2 (st := [.ref a0]) (av := [.int a1]) E 0 0 (z_rS (st := [.ref a0]) (av := [.int a1]) E Y_X10_isPage k_X10_77 (c_X10_isPage (l := z_l X) (h := h) (z_El E) a1) dX10_room_2 rfl rfl (by decide) (by decide) (by decide) (by decide) (Nat.le_of_ble_eq_true rfl)) rfl rfl rfl ?_
  rcases oi e with ⟨c1, e⟩ | ⟨c1, e⟩
  · refine z_if_eqT (tgt := 12) E dX10_room_5 rfl (zb_f c1) ?_
    refine z_iconst E dX10_room_12 ic_1 ?_
    obtain ⟨_, e2, e⟩ := ob e
    obtain ⟨p3, e4, e⟩ := ob e
    refine z_kR2 (st := []) (av := [.ref a0, .int (1 : Int32)]) E 0 0 (z_rV (st := []) (av := [.int (1 : Int32)]) E Y_X10_fails k_X10_70 (ci := 12) rfl (c_X10_fails (z_El E) e4) dX10_room_13 e2 rfl rfl (by decide) (by decide) (by decide) (by decide) (Nat.zero_le _)) rfl rfl rfl ?_
    rcases oi e with ⟨c5, e⟩ | ⟨c5, e⟩
    · refine z_if_eqT (tgt := 23) E dX10_room_16 rfl (zb_f c5) ?_
      refine z_aload_n E 0 dX10_room_23 rfl ?_
      refine z_iload_n E 1 dX10_room_24 rfl ?_
      obtain ⟨_, e6, e⟩ := ob e
      obtain ⟨p7, e8, e⟩ := ob e
      refine z_kR2 (st := []) (av := [.ref a0, .int a1]) E 0 0 (z_rV (st := []) (av := [.int a1]) E Y_X10_roomOn k_X10_139 (ci := 12) rfl (c_X10_roomOn (z_El E) e8) dX10_room_25 e6 rfl rfl (by decide) (by decide) (by decide) (by decide) (Nat.zero_le _)) rfl rfl rfl ?_
      obtain rfl := Option.some.inj e
      exact z_iret E M dX10_room_28 rfl rfl rfl rfl (by decide) (by decide)
    · refine z_if_eqF (tgt := 23) E dX10_room_16 rfl (zb_nf c5) ?_
      refine z_iconst E dX10_room_19 ic_0 ?_
      refine z_goto (tgt := 28) E dX10_room_20 rfl ?_
      obtain rfl := Option.some.inj e
      exact z_iret E M dX10_room_28 rfl rfl rfl rfl (by decide) (by decide)
  · refine z_if_eqF (tgt := 12) E dX10_room_5 rfl (zb_nf c1) ?_
    refine z_iconst E dX10_room_8 ic_0 ?_
    refine z_goto (tgt := 13) E dX10_room_9 rfl ?_
    obtain ⟨_, e9, e⟩ := ob e
    obtain ⟨p10, e11, e⟩ := ob e
    refine z_kR2 (st := []) (av := [.ref a0, .int (0 : Int32)]) E 0 0 (z_rV (st := []) (av := [.int (0 : Int32)]) E Y_X10_fails k_X10_70 (ci := 12) rfl (c_X10_fails (z_El E) e11) dX10_room_13 e9 rfl rfl (by decide) (by decide) (by decide) (by decide) (Nat.zero_le _)) rfl rfl rfl ?_
    rcases oi e with ⟨c12, e⟩ | ⟨c12, e⟩
    · refine z_if_eqT (tgt := 23) E dX10_room_16 rfl (zb_f c12) ?_
      refine z_aload_n E 0 dX10_room_23 rfl ?_
      refine z_iload_n E 1 dX10_room_24 rfl ?_
      obtain ⟨_, e13, e⟩ := ob e
      obtain ⟨p14, e15, e⟩ := ob e
      refine z_kR2 (st := []) (av := [.ref a0, .int a1]) E 0 0 (z_rV (st := []) (av := [.int a1]) E Y_X10_roomOn k_X10_139 (ci := 12) rfl (c_X10_roomOn (z_El E) e15) dX10_room_25 e13 rfl rfl (by decide) (by decide) (by decide) (by decide) (Nat.zero_le _)) rfl rfl rfl ?_
      obtain rfl := Option.some.inj e
      exact z_iret E M dX10_room_28 rfl rfl rfl rfl (by decide) (by decide)
    · refine z_if_eqF (tgt := 23) E dX10_room_16 rfl (zb_nf c12) ?_
      refine z_iconst E dX10_room_19 ic_0 ?_
      refine z_goto (tgt := 28) E dX10_room_20 rfl ?_
      obtain rfl := Option.some.inj e
      exact z_iret E M dX10_room_28 rfl rfl rfl rfl (by decide) (by decide)
theorem c_X10_room {l : Launch} (hl : l.stackTraces = false) {h : PH} {a0 : Nat} {a1 : Int32} {r : (Int32 × PH)} (e : f_X10_room h a0 a1 = some r) : CMet l yX10_room (z_W yX10_room cX10_room 2 (some .int)) rmX10_room h [.ref a0, .int a1] (.inr (some (.int r.1))) r.2 :=
  z_met hl Y_X10_room (by decide +kernel) (Nat.le_of_ble_eq_true rfl) (fun X hX E T0 M => b_X10_room E T0 e M)
abbrev rmX7_countFloatingOn : Room := { frames := 0, cells := 0, slots := 0, locals := 0 }
noncomputable def f_X7_countFloatingOn_L4 : Nat → PH → Nat → Int32 → Int32 → Int32 → Option Int32
  | 0, _, _, _, _, _ => none
  | fu + 1, h, v0, v1, v2, v3 =>
    (rdI h v0 9 0).bind fun x1 =>
    if x1 ≤ v3 then
      some v2
    else
      (rdR h v0 9 3).bind fun x4 =>
      (alI .char h x4 v3).bind fun x6 =>
      if ¬ x6 = (102 : Int32) then
        f_X7_countFloatingOn_L4 fu h v0 v1 v2 (v3 + (1 : Int32))
      else
        (rdR h v0 9 1).bind fun x9 =>
        (alI .int h x9 v3).bind fun x11 =>
        if ¬ x11 = v1 then
          f_X7_countFloatingOn_L4 fu h v0 v1 v2 (v3 + (1 : Int32))
        else
          f_X7_countFloatingOn_L4 fu h v0 v1 (v2 + (1 : Int32)) (v3 + (1 : Int32))
theorem b_X7_countFloatingOn_L4 {X : PX} (E : z_E X cX7_countFloatingOn RX7 "countFloatingOn" 4 rmX7_countFloatingOn (some .int)) (T0 : z_T0 X) {k n : Nat} (hk : k + 0 ≤ rmX7_countFloatingOn.cells) (hn : n + 0 ≤ rmX7_countFloatingOn.slots) {s : Int32} : ∀ (fu : Nat) (h : PH) (v0 : Nat) (v1 : Int32) (v2 : Int32) (v3 : Int32) (e : f_X7_countFloatingOn_L4 fu h v0 v1 v2 v3 = some s) (kk : WP X 4 k n 42 [(2, .int s)] [] h), WP X 4 k n 4 [(0, .ref v0), (1, .int v1), (2, .int v2), (3, .int v3)] [] h := by
  intro fu
  induction fu with
  | zero => intro h v0 v1 v2 v3 e; exact absurd (show (none : Option Int32) = some s from e) (by intro z; cases z)
  | succ fu ih =>
    intro h v0 v1 v2 v3 e kk
    unfold f_X7_countFloatingOn_L4 at e
    refine z_iload_n E 3 dX7_countFloatingOn_4 rfl ?_
    refine z_aload_n E 0 dX7_countFloatingOn_5 rfl ?_
    obtain ⟨x1, e2, e⟩ := ob e
    refine z_getI E fl_X7_53 dX7_countFloatingOn_6 e2 ?_
    rcases oi e with ⟨c3, e⟩ | ⟨c3, e⟩
    · refine z_icmp_geT (tgt := 42) E dX7_countFloatingOn_9 rfl c3 ?_
      obtain rfl := Option.some.inj e
      exact z_sub [2] rfl kk
    · refine z_icmp_geF (tgt := 42) E dX7_countFloatingOn_9 rfl c3 ?_
      refine z_aload_n E 0 dX7_countFloatingOn_12 rfl ?_
      obtain ⟨x4, e5, e⟩ := ob e
      refine z_getR E fl_X7_18 dX7_countFloatingOn_13 e5 ?_
      refine z_iload_n E 3 dX7_countFloatingOn_16 rfl ?_
      obtain ⟨x6, e7, e⟩ := ob e
      refine z_cald E dX7_countFloatingOn_17 e7 ?_
      refine z_bipush E dX7_countFloatingOn_18 bp_102 ?_
      rcases oi e with ⟨c8, e⟩ | ⟨c8, e⟩
      · refine z_icmp_neT (tgt := 36) E dX7_countFloatingOn_20 rfl c8 ?_
        refine z_iinc (v := (v3 + (1 : Int32))) (lv2 := [(3, .int (v3 + (1 : Int32))), (0, .ref v0), (1, .int v1), (2, .int v2)]) E 3 dX7_countFloatingOn_36 rfl (congrArg (v3 + ·) ic_1) (by decide) rfl ?_
        refine z_goto (tgt := 4) E dX7_countFloatingOn_39 rfl ?_
        exact z_sub [1, 2, 3, 0] rfl (ih _ _ _ _ _ e kk)
      · refine z_icmp_neF (tgt := 36) E dX7_countFloatingOn_20 rfl (Classical.not_not.mp c8) ?_
        refine z_aload_n E 0 dX7_countFloatingOn_23 rfl ?_
        obtain ⟨x9, e10, e⟩ := ob e
        refine z_getR E fl_X7_9 dX7_countFloatingOn_24 e10 ?_
        refine z_iload_n E 3 dX7_countFloatingOn_27 rfl ?_
        obtain ⟨x11, e12, e⟩ := ob e
        refine z_iald E dX7_countFloatingOn_28 e12 ?_
        refine z_iload_n E 1 dX7_countFloatingOn_29 rfl ?_
        rcases oi e with ⟨c13, e⟩ | ⟨c13, e⟩
        · refine z_icmp_neT (tgt := 36) E dX7_countFloatingOn_30 rfl c13 ?_
          refine z_iinc (v := (v3 + (1 : Int32))) (lv2 := [(3, .int (v3 + (1 : Int32))), (0, .ref v0), (1, .int v1), (2, .int v2)]) E 3 dX7_countFloatingOn_36 rfl (congrArg (v3 + ·) ic_1) (by decide) rfl ?_
          refine z_goto (tgt := 4) E dX7_countFloatingOn_39 rfl ?_
          exact z_sub [1, 2, 3, 0] rfl (ih _ _ _ _ _ e kk)
        · refine z_icmp_neF (tgt := 36) E dX7_countFloatingOn_30 rfl (Classical.not_not.mp c13) ?_
          refine z_iinc (v := (v2 + (1 : Int32))) (lv2 := [(2, .int (v2 + (1 : Int32))), (0, .ref v0), (1, .int v1), (3, .int v3)]) E 2 dX7_countFloatingOn_33 rfl (congrArg (v2 + ·) ic_1) (by decide) rfl ?_
          refine z_iinc (v := (v3 + (1 : Int32))) (lv2 := [(3, .int (v3 + (1 : Int32))), (2, .int (v2 + (1 : Int32))), (0, .ref v0), (1, .int v1)]) E 3 dX7_countFloatingOn_36 rfl (congrArg (v3 + ·) ic_1) (by decide) rfl ?_
          refine z_goto (tgt := 4) E dX7_countFloatingOn_39 rfl ?_
          exact z_sub [2, 3, 1, 0] rfl (ih _ _ _ _ _ e kk)
noncomputable def f_X7_countFloatingOn (h : PH) (a0 : Nat) (a1 : Int32) : Option Int32 :=
  (f_X7_countFloatingOn_L4 FV h a0 a1 (0 : Int32) (0 : Int32)).bind fun s1 =>
  some s1
theorem b_X7_countFloatingOn {X : PX} (E : z_E X cX7_countFloatingOn RX7 "countFloatingOn" 4 rmX7_countFloatingOn (some .int)) (T0 : z_T0 X) {h : PH} {a0 : Nat} {a1 : Int32} {r : Int32} (e : f_X7_countFloatingOn h a0 a1 = some r) (M : z_M X rmX7_countFloatingOn.cells rmX7_countFloatingOn.slots (.inr (some (.int r))) h) : WP X 4 0 0 0 [(0, .ref a0), (1, .int a1)] [] h := by
  unfold f_X7_countFloatingOn at e
  refine z_iconst E dX7_countFloatingOn_0 ic_0 ?_
  refine z_istore_n (lv2 := [(2, .int (0 : Int32)), (0, .ref a0), (1, .int a1)]) E dX7_countFloatingOn_1 (by decide) rfl ?_
  refine z_iconst E dX7_countFloatingOn_2 ic_0 ?_
  refine z_istore_n (lv2 := [(3, .int (0 : Int32)), (2, .int (0 : Int32)), (0, .ref a0), (1, .int a1)]) E dX7_countFloatingOn_3 (by decide) rfl ?_
  obtain ⟨s1, e2, e⟩ := ob e
  refine z_sub [2, 3, 1, 0] rfl (b_X7_countFloatingOn_L4 E T0 (by decide) (by decide) FV _ _ _ _ _ e2 ?_)
  refine z_iload_n E 0 dX7_countFloatingOn_42 rfl ?_
  obtain rfl := Option.some.inj e
  exact z_iret E M dX7_countFloatingOn_43 rfl rfl rfl rfl (by decide) (by decide)
theorem c_X7_countFloatingOn {l : Launch} (hl : l.stackTraces = false) {h : PH} {a0 : Nat} {a1 : Int32} {r : Int32} (e : f_X7_countFloatingOn h a0 a1 = some r) : CMet l yX7_countFloatingOn (z_W yX7_countFloatingOn cX7_countFloatingOn 4 (some .int)) rmX7_countFloatingOn h [.ref a0, .int a1] (.inr (some (.int r))) h :=
  z_met hl Y_X7_countFloatingOn (by decide +kernel) (Nat.le_of_ble_eq_true rfl) (fun X hX E T0 M => b_X7_countFloatingOn E T0 e M)
abbrev rmX9_floatingOn : Room := { frames := 7, cells := 1, slots := 6, locals := 112 }
noncomputable def f_X9_floatingOn (h : PH) (a0 : Nat) (a1 : Int32) : Option (String ⊕ Int32) :=
  Sum.elim
    (fun E1 =>
    some (Sum.inl E1))
    (fun y3 =>
    (rdR h a0 11 0).bind fun x4 =>
    (gd h x4 9).bind fun _ =>
    (f_X7_countFloatingOn h x4 a1).bind fun p7 =>
    some (Sum.inr p7)) (f_X9_needPage a1)
theorem b_X9_floatingOn {X : PX} (E : z_E X cX9_floatingOn RX9 "floatingOn" 2 rmX9_floatingOn (some .int)) (T0 : z_T0 X) {h : PH} {a0 : Nat} {a1 : Int32} {r : (String ⊕ Int32)} (e : f_X9_floatingOn h a0 a1 = some r) (M : z_M X rmX9_floatingOn.cells rmX9_floatingOn.slots (zoI r) h) : WP X 2 0 0 0 [(0, .ref a0), (1, .int a1)] [] h := by
  unfold f_X9_floatingOn at e
  refine z_iload_n E 1 dX9_floatingOn_0 rfl ?_
  rcases os e with ⟨E1, c2, e⟩ | ⟨y3, c2, e⟩
  · obtain rfl := Option.some.inj e
    refine z_kX2 (st := []) (av := [.int a1]) E 1 6 (z_rS (st := []) (av := [.int a1]) E Y_X9_needPage k_X9_130 (zc_o (c_X9_needPage (l := z_l X) (h := h) (z_El E) a1) (by rw [c2]; rfl)) dX9_floatingOn_1 rfl rfl (by decide) (by decide) (by decide) (by decide) (Nat.zero_le _)) rfl rfl rfl ?_
    exact z_outX E T0 M rfl rfl (by decide) (by decide)
  · refine z_kV2 (st := []) (av := [.int a1]) E 1 6 (z_rS (st := []) (av := [.int a1]) E Y_X9_needPage k_X9_130 (zc_o (c_X9_needPage (l := z_l X) (h := h) (z_El E) a1) (by rw [c2]; rfl)) dX9_floatingOn_1 rfl rfl (by decide) (by decide) (by decide) (by decide) (Nat.zero_le _)) rfl rfl rfl ?_
    refine z_aload_n E 0 dX9_floatingOn_4 rfl ?_
    obtain ⟨x4, e5, e⟩ := ob e
    refine z_getR E fl_X9_12 dX9_floatingOn_5 e5 ?_
    refine z_iload_n E 1 dX9_floatingOn_8 rfl ?_
    obtain ⟨_, e6, e⟩ := ob e
    obtain ⟨p7, e8, e⟩ := ob e
    refine z_kR2 (st := []) (av := [.ref x4, .int a1]) E 1 6 (z_rV (st := []) (av := [.int a1]) E Y_X7_countFloatingOn k_X9_142 (ci := 9) rfl (c_X7_countFloatingOn (z_El E) e8) dX9_floatingOn_9 e6 rfl rfl (by decide) (by decide) (by decide) (by decide) (Nat.zero_le _)) rfl rfl rfl ?_
    obtain rfl := Option.some.inj e
    exact z_iret E M dX9_floatingOn_12 rfl rfl rfl rfl (by decide) (by decide)
theorem c_X9_floatingOn {l : Launch} (hl : l.stackTraces = false) {h : PH} {a0 : Nat} {a1 : Int32} {r : (String ⊕ Int32)} (e : f_X9_floatingOn h a0 a1 = some r) : CMet l yX9_floatingOn (z_W yX9_floatingOn cX9_floatingOn 2 (some .int)) rmX9_floatingOn h [.ref a0, .int a1] (zoI r) h :=
  z_met hl Y_X9_floatingOn (by decide +kernel) (Nat.le_of_ble_eq_true rfl) (fun X hX E T0 M => b_X9_floatingOn E T0 e M)
abbrev rmL_floatingOn : Room := { frames := 8, cells := 1, slots := 6, locals := 133 }
noncomputable def f_L_floatingOn (h : PH) (a0 : Nat) (a1 : Int32) (a2 : Nat) : Option (Int32 × PH) :=
  (gd h a0 11).bind fun _ =>
  (f_X9_floatingOn h a0 a1).bind fun p2 =>
  Sum.elim
    (fun E4 =>
    if E4 = "java/lang/IllegalArgumentException" then
      some ((1 : Int32), h)
    else none)
    (fun y6 =>
    (asL h a2 (0 : Int32) y6.toInt64).bind fun h8 =>
    some ((0 : Int32), h8)) p2
theorem b_L_floatingOn {X : PX} (E : z_E X cL_floatingOn RL "floatingOn" 4 rmL_floatingOn (some .int)) (TT : z_TT X [(0, 9, 12, 13)]) {h : PH} {a0 : Nat} {a1 : Int32} {a2 : Nat} {r : (Int32 × PH)} (e : f_L_floatingOn h a0 a1 a2 = some r) (M : z_M X rmL_floatingOn.cells rmL_floatingOn.slots (.inr (some (.int r.1))) r.2) : WP X 4 0 0 0 [(0, .ref a0), (1, .int a1), (2, .ref a2)] [] h := by
  unfold f_L_floatingOn at e
  refine z_aload_n E 2 dL_floatingOn_0 rfl ?_
  refine z_iconst E dL_floatingOn_1 ic_0 ?_
  refine z_aload_n E 0 dL_floatingOn_2 rfl ?_
  refine z_iload_n E 1 dL_floatingOn_3 rfl ?_
  obtain ⟨_, e1, e⟩ := ob e
  obtain ⟨p2, e3, e⟩ := ob e
  rcases os e with ⟨E4, c5, e⟩ | ⟨y6, c5, e⟩
  · rcases oi e with ⟨c7, e⟩ | ⟨c7, e⟩
    · subst c7
      refine z_kX2 (st := [.int (0 : Int32), .ref a2]) (av := [.ref a0, .int a1]) E 1 6 (z_rV (st := [.int (0 : Int32), .ref a2]) (av := [.int a1]) E Y_X9_floatingOn k_L_67 (ci := 11) rfl (zc_o (c_X9_floatingOn (z_El E) e3) (by rw [c5]; rfl)) dL_floatingOn_4 e1 rfl rfl (by decide) (by decide) (by decide) (by decide) (Nat.le_of_ble_eq_true rfl)) rfl rfl rfl ?_
      refine z_catch (lv2 := [(0, .ref a0), (1, .int a1), (2, .ref a2)]) E TT 0 (q := (0, 9, 12, 13)) rfl rfl (by decide) cl_L_13 kb_IllegalArgumentException (fun z hz => nomatch hz) (Or.inl ⟨_, dL_floatingOn_12, rfl, rfl⟩) (by decide) rfl ?_
      refine z_iconst E dL_floatingOn_13 ic_1 ?_
      obtain rfl := Option.some.inj e
      exact z_iret E M dL_floatingOn_14 rfl rfl rfl rfl (by decide) (by decide)
    cases e
  · refine z_kR2 (st := [.int (0 : Int32), .ref a2]) (av := [.ref a0, .int a1]) E 1 6 (z_rV (st := [.int (0 : Int32), .ref a2]) (av := [.int a1]) E Y_X9_floatingOn k_L_67 (ci := 11) rfl (zc_o (c_X9_floatingOn (z_El E) e3) (by rw [c5]; rfl)) dL_floatingOn_4 e1 rfl rfl (by decide) (by decide) (by decide) (by decide) (Nat.le_of_ble_eq_true rfl)) rfl rfl rfl ?_
    refine z_i2l (v := y6.toInt64) E dL_floatingOn_7 rfl ?_
    obtain ⟨h8, e9, e⟩ := ob e
    refine z_last E dL_floatingOn_8 e9 ?_
    refine z_goto (tgt := 15) E dL_floatingOn_9 rfl ?_
    refine z_iconst E dL_floatingOn_15 ic_0 ?_
    obtain rfl := Option.some.inj e
    exact z_iret E M dL_floatingOn_16 rfl rfl rfl rfl (by decide) (by decide)
theorem c_L_floatingOn {l : Launch} (hl : l.stackTraces = false) {h : PH} {a0 : Nat} {a1 : Int32} {a2 : Nat} {r : (Int32 × PH)} (e : f_L_floatingOn h a0 a1 a2 = some r) : CMet l yL_floatingOn (z_WH yL_floatingOn cL_floatingOn 4 (some .int) [(0, 9, 12, 13)]) rmL_floatingOn h [.ref a0, .int a1, .ref a2] (.inr (some (.int r.1))) r.2 :=
  z_metH hl Y_L_floatingOn (by decide +kernel) (Nat.le_of_ble_eq_true rfl) (fun X hX E T0 M => b_L_floatingOn E T0 e M)
abbrev rmX10_those : Room := { frames := 1, cells := 0, slots := 0, locals := 22 }
noncomputable def f_X10_those_L4 : Nat → PH → Nat → Int32 → Int32 → Int32 → Option Int32
  | 0, _, _, _, _, _ => none
  | fu + 1, h, v0, v1, v2, v3 =>
    (rdR h v0 12 0).bind fun x1 =>
    (alI .int h x1 (0 : Int32)).bind fun x3 =>
    if x3 ≤ v3 then
      some v2
    else
      (gd h v0 12).bind fun _ =>
      (f_X10_of h v0 v3 (2 : Int32)).bind fun p7 =>
      if ¬ p7 = v1 then
        f_X10_those_L4 fu h v0 v1 v2 (v3 + (1 : Int32))
      else
        f_X10_those_L4 fu h v0 v1 (v2 ||| (zshl (1 : Int32) v3)) (v3 + (1 : Int32))
theorem b_X10_those_L4 {X : PX} (E : z_E X cX10_those RX10 "those" 4 rmX10_those (some .int)) (T0 : z_T0 X) {k n : Nat} (hk : k + 0 ≤ rmX10_those.cells) (hn : n + 0 ≤ rmX10_those.slots) {s : Int32} : ∀ (fu : Nat) (h : PH) (v0 : Nat) (v1 : Int32) (v2 : Int32) (v3 : Int32) (e : f_X10_those_L4 fu h v0 v1 v2 v3 = some s) (kk : WP X 4 k n 36 [(2, .int s)] [] h), WP X 4 k n 4 [(0, .ref v0), (1, .int v1), (2, .int v2), (3, .int v3)] [] h := by
  intro fu
  induction fu with
  | zero => intro h v0 v1 v2 v3 e; exact absurd (show (none : Option Int32) = some s from e) (by intro z; cases z)
  | succ fu ih =>
    intro h v0 v1 v2 v3 e kk
    unfold f_X10_those_L4 at e
    refine z_iload_n E 3 dX10_those_4 rfl ?_
    refine z_aload_n E 0 dX10_those_5 rfl ?_
    obtain ⟨x1, e2, e⟩ := ob e
    refine z_getR E fl_X10_7 dX10_those_6 e2 ?_
    refine z_iconst E dX10_those_9 ic_0 ?_
    obtain ⟨x3, e4, e⟩ := ob e
    refine z_iald E dX10_those_10 e4 ?_
    rcases oi e with ⟨c5, e⟩ | ⟨c5, e⟩
    · refine z_icmp_geT (tgt := 36) E dX10_those_11 rfl c5 ?_
      obtain rfl := Option.some.inj e
      exact z_sub [2] rfl kk
    · refine z_icmp_geF (tgt := 36) E dX10_those_11 rfl c5 ?_
      refine z_aload_n E 0 dX10_those_14 rfl ?_
      refine z_iload_n E 3 dX10_those_15 rfl ?_
      refine z_iconst E dX10_those_16 ic_2 ?_
      obtain ⟨_, e6, e⟩ := ob e
      obtain ⟨p7, e8, e⟩ := ob e
      refine z_kR2 (st := []) (av := [.ref v0, .int v3, .int (2 : Int32)]) E k n (z_rV (st := []) (av := [.int v3, .int (2 : Int32)]) E Y_X10_of k_X10_73 (ci := 12) rfl (c_X10_of (z_El E) e8) dX10_those_17 e6 rfl rfl (by decide) (by decide) (zk (k := k) (a := 0) hk (by decide)) (zk (k := n) (a := 0) hn (by decide)) (Nat.zero_le _)) rfl rfl rfl ?_
      refine z_iload_n E 1 dX10_those_20 rfl ?_
      rcases oi e with ⟨c9, e⟩ | ⟨c9, e⟩
      · refine z_icmp_neT (tgt := 30) E dX10_those_21 rfl c9 ?_
        refine z_iinc (v := (v3 + (1 : Int32))) (lv2 := [(3, .int (v3 + (1 : Int32))), (0, .ref v0), (1, .int v1), (2, .int v2)]) E 3 dX10_those_30 rfl (congrArg (v3 + ·) ic_1) (by decide) rfl ?_
        refine z_goto (tgt := 4) E dX10_those_33 rfl ?_
        exact z_sub [1, 2, 3, 0] rfl (ih _ _ _ _ _ e kk)
      · refine z_icmp_neF (tgt := 30) E dX10_those_21 rfl (Classical.not_not.mp c9) ?_
        refine z_iload_n E 2 dX10_those_24 rfl ?_
        refine z_iconst E dX10_those_25 ic_1 ?_
        refine z_iload_n E 3 dX10_those_26 rfl ?_
        refine z_ishl E dX10_those_27 ?_
        refine z_ior E dX10_those_28 ?_
        refine z_istore_n (lv2 := [(2, .int (v2 ||| (zshl (1 : Int32) v3))), (0, .ref v0), (1, .int v1), (3, .int v3)]) E dX10_those_29 (by decide) rfl ?_
        refine z_iinc (v := (v3 + (1 : Int32))) (lv2 := [(3, .int (v3 + (1 : Int32))), (2, .int (v2 ||| (zshl (1 : Int32) v3))), (0, .ref v0), (1, .int v1)]) E 3 dX10_those_30 rfl (congrArg (v3 + ·) ic_1) (by decide) rfl ?_
        refine z_goto (tgt := 4) E dX10_those_33 rfl ?_
        exact z_sub [2, 3, 1, 0] rfl (ih _ _ _ _ _ e kk)
noncomputable def f_X10_those (h : PH) (a0 : Nat) (a1 : Int32) : Option Int32 :=
  (f_X10_those_L4 FV h a0 a1 (0 : Int32) (0 : Int32)).bind fun s1 =>
  some s1
theorem b_X10_those {X : PX} (E : z_E X cX10_those RX10 "those" 4 rmX10_those (some .int)) (T0 : z_T0 X) {h : PH} {a0 : Nat} {a1 : Int32} {r : Int32} (e : f_X10_those h a0 a1 = some r) (M : z_M X rmX10_those.cells rmX10_those.slots (.inr (some (.int r))) h) : WP X 4 0 0 0 [(0, .ref a0), (1, .int a1)] [] h := by
  unfold f_X10_those at e
  refine z_iconst E dX10_those_0 ic_0 ?_
  refine z_istore_n (lv2 := [(2, .int (0 : Int32)), (0, .ref a0), (1, .int a1)]) E dX10_those_1 (by decide) rfl ?_
  refine z_iconst E dX10_those_2 ic_0 ?_
  refine z_istore_n (lv2 := [(3, .int (0 : Int32)), (2, .int (0 : Int32)), (0, .ref a0), (1, .int a1)]) E dX10_those_3 (by decide) rfl ?_
  obtain ⟨s1, e2, e⟩ := ob e
  refine z_sub [2, 3, 1, 0] rfl (b_X10_those_L4 E T0 (by decide) (by decide) FV _ _ _ _ _ e2 ?_)
  refine z_iload_n E 0 dX10_those_36 rfl ?_
  obtain rfl := Option.some.inj e
  exact z_iret E M dX10_those_37 rfl rfl rfl rfl (by decide) (by decide)
theorem c_X10_those {l : Launch} (hl : l.stackTraces = false) {h : PH} {a0 : Nat} {a1 : Int32} {r : Int32} (e : f_X10_those h a0 a1 = some r) : CMet l yX10_those (z_W yX10_those cX10_those 4 (some .int)) rmX10_those h [.ref a0, .int a1] (.inr (some (.int r))) h :=
  z_met hl Y_X10_those (by decide +kernel) (Nat.le_of_ble_eq_true rfl) (fun X hX E T0 M => b_X10_those E T0 e M)
abbrev rmX10_onPage : Room := { frames := 1, cells := 0, slots := 0, locals := 22 }
noncomputable def f_X10_onPage_L5 : Nat → PH → Nat → Int32 → Int32 → Int32 → Int32 → Option Int32
  | 0, _, _, _, _, _, _ => none
  | fu + 1, h, v0, v1, v2, v3, v4 =>
    (rdR h v0 12 0).bind fun x1 =>
    (alI .int h x1 (0 : Int32)).bind fun x3 =>
    if x3 ≤ v4 then
      some v3
    else
      if ¬ ((zshr v2 v4) &&& (1 : Int32)) = (1 : Int32) then
        f_X10_onPage_L5 fu h v0 v1 v2 v3 (v4 + (1 : Int32))
      else
        (gd h v0 12).bind fun _ =>
        (f_X10_of h v0 v4 (0 : Int32)).bind fun p8 =>
        if ¬ p8 = v1 then
          f_X10_onPage_L5 fu h v0 v1 v2 v3 (v4 + (1 : Int32))
        else
          f_X10_onPage_L5 fu h v0 v1 v2 (v3 ||| (zshl (1 : Int32) v4)) (v4 + (1 : Int32))
theorem b_X10_onPage_L5 {X : PX} (E : z_E X cX10_onPage RX10 "onPage" 5 rmX10_onPage (some .int)) (T0 : z_T0 X) {k n : Nat} (hk : k + 0 ≤ rmX10_onPage.cells) (hn : n + 0 ≤ rmX10_onPage.slots) {s : Int32} : ∀ (fu : Nat) (h : PH) (v0 : Nat) (v1 : Int32) (v2 : Int32) (v3 : Int32) (v4 : Int32) (e : f_X10_onPage_L5 fu h v0 v1 v2 v3 v4 = some s) (kk : WP X 5 k n 50 [(3, .int s)] [] h), WP X 5 k n 5 [(0, .ref v0), (1, .int v1), (2, .int v2), (3, .int v3), (4, .int v4)] [] h := by
  intro fu
  induction fu with
  | zero => intro h v0 v1 v2 v3 v4 e; exact absurd (show (none : Option Int32) = some s from e) (by intro z; cases z)
  | succ fu ih =>
    intro h v0 v1 v2 v3 v4 e kk
    unfold f_X10_onPage_L5 at e
    refine z_iload E 4 dX10_onPage_5 rfl ?_
    refine z_aload_n E 0 dX10_onPage_7 rfl ?_
    obtain ⟨x1, e2, e⟩ := ob e
    refine z_getR E fl_X10_7 dX10_onPage_8 e2 ?_
    refine z_iconst E dX10_onPage_11 ic_0 ?_
    obtain ⟨x3, e4, e⟩ := ob e
    refine z_iald E dX10_onPage_12 e4 ?_
    rcases oi e with ⟨c5, e⟩ | ⟨c5, e⟩
    · refine z_icmp_geT (tgt := 50) E dX10_onPage_13 rfl c5 ?_
      obtain rfl := Option.some.inj e
      exact z_sub [3] rfl kk
    · refine z_icmp_geF (tgt := 50) E dX10_onPage_13 rfl c5 ?_
      refine z_iload_n E 2 dX10_onPage_16 rfl ?_
      refine z_iload E 4 dX10_onPage_17 rfl ?_
      refine z_ishr E dX10_onPage_19 ?_
      refine z_iconst E dX10_onPage_20 ic_1 ?_
      refine z_iand E dX10_onPage_21 ?_
      refine z_iconst E dX10_onPage_22 ic_1 ?_
      rcases oi e with ⟨c6, e⟩ | ⟨c6, e⟩
      · refine z_icmp_neT (tgt := 44) E dX10_onPage_23 rfl c6 ?_
        refine z_iinc (v := (v4 + (1 : Int32))) (lv2 := [(4, .int (v4 + (1 : Int32))), (0, .ref v0), (1, .int v1), (2, .int v2), (3, .int v3)]) E 4 dX10_onPage_44 rfl (congrArg (v4 + ·) ic_1) (by decide) rfl ?_
        refine z_goto (tgt := 5) E dX10_onPage_47 rfl ?_
        exact z_sub [1, 2, 3, 4, 0] rfl (ih _ _ _ _ _ _ e kk)
      · refine z_icmp_neF (tgt := 44) E dX10_onPage_23 rfl (Classical.not_not.mp c6) ?_
        refine z_aload_n E 0 dX10_onPage_26 rfl ?_
        refine z_iload E 4 dX10_onPage_27 rfl ?_
        refine z_iconst E dX10_onPage_29 ic_0 ?_
        obtain ⟨_, e7, e⟩ := ob e
        obtain ⟨p8, e9, e⟩ := ob e
        refine z_kR2 (st := []) (av := [.ref v0, .int v4, .int (0 : Int32)]) E k n (z_rV (st := []) (av := [.int v4, .int (0 : Int32)]) E Y_X10_of k_X10_73 (ci := 12) rfl (c_X10_of (z_El E) e9) dX10_onPage_30 e7 rfl rfl (by decide) (by decide) (zk (k := k) (a := 0) hk (by decide)) (zk (k := n) (a := 0) hn (by decide)) (Nat.zero_le _)) rfl rfl rfl ?_
        refine z_iload_n E 1 dX10_onPage_33 rfl ?_
        rcases oi e with ⟨c10, e⟩ | ⟨c10, e⟩
        · refine z_icmp_neT (tgt := 44) E dX10_onPage_34 rfl c10 ?_
          refine z_iinc (v := (v4 + (1 : Int32))) (lv2 := [(4, .int (v4 + (1 : Int32))), (0, .ref v0), (1, .int v1), (2, .int v2), (3, .int v3)]) E 4 dX10_onPage_44 rfl (congrArg (v4 + ·) ic_1) (by decide) rfl ?_
          refine z_goto (tgt := 5) E dX10_onPage_47 rfl ?_
          exact z_sub [1, 2, 3, 4, 0] rfl (ih _ _ _ _ _ _ e kk)
        · refine z_icmp_neF (tgt := 44) E dX10_onPage_34 rfl (Classical.not_not.mp c10) ?_
          refine z_iload_n E 3 dX10_onPage_37 rfl ?_
          refine z_iconst E dX10_onPage_38 ic_1 ?_
          refine z_iload E 4 dX10_onPage_39 rfl ?_
          refine z_ishl E dX10_onPage_41 ?_
          refine z_ior E dX10_onPage_42 ?_
          refine z_istore_n (lv2 := [(3, .int (v3 ||| (zshl (1 : Int32) v4))), (0, .ref v0), (1, .int v1), (2, .int v2), (4, .int v4)]) E dX10_onPage_43 (by decide) rfl ?_
          refine z_iinc (v := (v4 + (1 : Int32))) (lv2 := [(4, .int (v4 + (1 : Int32))), (3, .int (v3 ||| (zshl (1 : Int32) v4))), (0, .ref v0), (1, .int v1), (2, .int v2)]) E 4 dX10_onPage_44 rfl (congrArg (v4 + ·) ic_1) (by decide) rfl ?_
          refine z_goto (tgt := 5) E dX10_onPage_47 rfl ?_
          exact z_sub [2, 3, 4, 1, 0] rfl (ih _ _ _ _ _ _ e kk)
noncomputable def f_X10_onPage (h : PH) (a0 : Nat) (a1 : Int32) (a2 : Int32) : Option Int32 :=
  (f_X10_onPage_L5 FV h a0 a1 a2 (0 : Int32) (0 : Int32)).bind fun s1 =>
  some s1
theorem b_X10_onPage {X : PX} (E : z_E X cX10_onPage RX10 "onPage" 5 rmX10_onPage (some .int)) (T0 : z_T0 X) {h : PH} {a0 : Nat} {a1 : Int32} {a2 : Int32} {r : Int32} (e : f_X10_onPage h a0 a1 a2 = some r) (M : z_M X rmX10_onPage.cells rmX10_onPage.slots (.inr (some (.int r))) h) : WP X 5 0 0 0 [(0, .ref a0), (1, .int a1), (2, .int a2)] [] h := by
  unfold f_X10_onPage at e
  refine z_iconst E dX10_onPage_0 ic_0 ?_
  refine z_istore_n (lv2 := [(3, .int (0 : Int32)), (0, .ref a0), (1, .int a1), (2, .int a2)]) E dX10_onPage_1 (by decide) rfl ?_
  refine z_iconst E dX10_onPage_2 ic_0 ?_
  refine z_istore (lv2 := [(4, .int (0 : Int32)), (3, .int (0 : Int32)), (0, .ref a0), (1, .int a1), (2, .int a2)]) E dX10_onPage_3 (by decide) rfl ?_
  obtain ⟨s1, e2, e⟩ := ob e
  refine z_sub [2, 3, 4, 1, 0] rfl (b_X10_onPage_L5 E T0 (by decide) (by decide) FV _ _ _ _ _ _ e2 ?_)
  refine z_iload_n E 0 dX10_onPage_50 rfl ?_
  obtain rfl := Option.some.inj e
  exact z_iret E M dX10_onPage_51 rfl rfl rfl rfl (by decide) (by decide)
theorem c_X10_onPage {l : Launch} (hl : l.stackTraces = false) {h : PH} {a0 : Nat} {a1 : Int32} {a2 : Int32} {r : Int32} (e : f_X10_onPage h a0 a1 a2 = some r) : CMet l yX10_onPage (z_W yX10_onPage cX10_onPage 5 (some .int)) rmX10_onPage h [.ref a0, .int a1, .int a2] (.inr (some (.int r))) h :=
  z_met hl Y_X10_onPage (by decide +kernel) (Nat.le_of_ble_eq_true rfl) (fun X hX E T0 M => b_X10_onPage E T0 e M)
abbrev rmX10_floatingOn : Room := { frames := 2, cells := 0, slots := 0, locals := 46 }
noncomputable def f_X10_floatingOn (h : PH) (a0 : Nat) (a1 : Int32) : Option (Int32 × PH) :=
  if (f_X10_isPage a1) = false then
    (gd h a0 12).bind fun _ =>
    (f_X10_fails h a0 (1 : Int32)).bind fun p3 =>
    if p3.1 = false then
      (gd p3.2 a0 12).bind fun _ =>
      (f_X10_those p3.2 a0 (0 : Int32)).bind fun p7 =>
      (gd p3.2 a0 12).bind fun _ =>
      (f_X10_onPage p3.2 a0 a1 p7).bind fun p10 =>
      (f_X10_bits p10).bind fun p12 =>
      some (p12, p3.2)
    else
      some ((0 : Int32), p3.2)
  else
    (gd h a0 12).bind fun _ =>
    (f_X10_fails h a0 (0 : Int32)).bind fun p15 =>
    if p15.1 = false then
      (gd p15.2 a0 12).bind fun _ =>
      (f_X10_those p15.2 a0 (0 : Int32)).bind fun p19 =>
      (gd p15.2 a0 12).bind fun _ =>
      (f_X10_onPage p15.2 a0 a1 p19).bind fun p22 =>
      (f_X10_bits p22).bind fun p24 =>
      some (p24, p15.2)
    else
      some ((0 : Int32), p15.2)
theorem b_X10_floatingOn {X : PX} (E : z_E X cX10_floatingOn RX10 "floatingOn" 2 rmX10_floatingOn (some .int)) (T0 : z_T0 X) {h : PH} {a0 : Nat} {a1 : Int32} {r : (Int32 × PH)} (e : f_X10_floatingOn h a0 a1 = some r) (M : z_M X rmX10_floatingOn.cells rmX10_floatingOn.slots (.inr (some (.int r.1))) r.2) : WP X 2 0 0 0 [(0, .ref a0), (1, .int a1)] [] h := by
  unfold f_X10_floatingOn at e
  refine z_aload_n E 0 dX10_floatingOn_0 rfl ?_
  refine z_iload_n E 1 dX10_floatingOn_1 rfl ?_
  refine z_kR2 (st := [.ref a0]) (av := [.int a1]) E 0 0 (z_rS (st := [.ref a0]) (av := [.int a1]) E Y_X10_isPage k_X10_77 (c_X10_isPage (l := z_l X) (h := h) (z_El E) a1) dX10_floatingOn_2 rfl rfl (by decide) (by decide) (by decide) (by decide) (Nat.le_of_ble_eq_true rfl)) rfl rfl rfl ?_
  rcases oi e with ⟨c1, e⟩ | ⟨c1, e⟩
  · refine z_if_eqT (tgt := 12) E dX10_floatingOn_5 rfl (zb_f c1) ?_
    refine z_iconst E dX10_floatingOn_12 ic_1 ?_
    obtain ⟨_, e2, e⟩ := ob e
    obtain ⟨p3, e4, e⟩ := ob e
    refine z_kR2 (st := []) (av := [.ref a0, .int (1 : Int32)]) E 0 0 (z_rV (st := []) (av := [.int (1 : Int32)]) E Y_X10_fails k_X10_70 (ci := 12) rfl (c_X10_fails (z_El E) e4) dX10_floatingOn_13 e2 rfl rfl (by decide) (by decide) (by decide) (by decide) (Nat.zero_le _)) rfl rfl rfl ?_
    rcases oi e with ⟨c5, e⟩ | ⟨c5, e⟩
    · refine z_if_eqT (tgt := 23) E dX10_floatingOn_16 rfl (zb_f c5) ?_
      refine z_aload_n E 0 dX10_floatingOn_23 rfl ?_
      refine z_iload_n E 1 dX10_floatingOn_24 rfl ?_
      refine z_aload_n E 0 dX10_floatingOn_25 rfl ?_
      refine z_iconst E dX10_floatingOn_26 ic_0 ?_
      obtain ⟨_, e6, e⟩ := ob e
      obtain ⟨p7, e8, e⟩ := ob e
      refine z_kR2 (st := [.int a1, .ref a0]) (av := [.ref a0, .int (0 : Int32)]) E 0 0 (z_rV (st := [.int a1, .ref a0]) (av := [.int (0 : Int32)]) E Y_X10_those k_X10_142 (ci := 12) rfl (c_X10_those (z_El E) e8) dX10_floatingOn_27 e6 rfl rfl (by decide) (by decide) (by decide) (by decide) (Nat.le_of_ble_eq_true rfl)) rfl rfl rfl ?_
      obtain ⟨_, e9, e⟩ := ob e
      obtain ⟨p10, e11, e⟩ := ob e
      refine z_kR2 (st := []) (av := [.ref a0, .int a1, .int p7]) E 0 0 (z_rV (st := []) (av := [.int a1, .int p7]) E Y_X10_onPage k_X10_145 (ci := 12) rfl (c_X10_onPage (z_El E) e11) dX10_floatingOn_30 e9 rfl rfl (by decide) (by decide) (by decide) (by decide) (Nat.zero_le _)) rfl rfl rfl ?_
      obtain ⟨p12, e13, e⟩ := ob e
      refine z_kR2 (st := []) (av := [.int p10]) E 0 0 (z_rS (st := []) (av := [.int p10]) E Y_X10_bits k_X10_99 (c_X10_bits (z_El E) e13) dX10_floatingOn_33 rfl rfl (by decide) (by decide) (by decide) (by decide) (Nat.zero_le _)) rfl rfl rfl ?_
      obtain rfl := Option.some.inj e
      exact z_iret E M dX10_floatingOn_36 rfl rfl rfl rfl (by decide) (by decide)
    · refine z_if_eqF (tgt := 23) E dX10_floatingOn_16 rfl (zb_nf c5) ?_
      refine z_iconst E dX10_floatingOn_19 ic_0 ?_
      refine z_goto (tgt := 36) E dX10_floatingOn_20 rfl ?_
      obtain rfl := Option.some.inj e
      exact z_iret E M dX10_floatingOn_36 rfl rfl rfl rfl (by decide) (by decide)
  · refine z_if_eqF (tgt := 12) E dX10_floatingOn_5 rfl (zb_nf c1) ?_
    refine z_iconst E dX10_floatingOn_8 ic_0 ?_
    refine z_goto (tgt := 13) E dX10_floatingOn_9 rfl ?_
    obtain ⟨_, e14, e⟩ := ob e
    obtain ⟨p15, e16, e⟩ := ob e
    refine z_kR2 (st := []) (av := [.ref a0, .int (0 : Int32)]) E 0 0 (z_rV (st := []) (av := [.int (0 : Int32)]) E Y_X10_fails k_X10_70 (ci := 12) rfl (c_X10_fails (z_El E) e16) dX10_floatingOn_13 e14 rfl rfl (by decide) (by decide) (by decide) (by decide) (Nat.zero_le _)) rfl rfl rfl ?_
    rcases oi e with ⟨c17, e⟩ | ⟨c17, e⟩
    · refine z_if_eqT (tgt := 23) E dX10_floatingOn_16 rfl (zb_f c17) ?_
      refine z_aload_n E 0 dX10_floatingOn_23 rfl ?_
      refine z_iload_n E 1 dX10_floatingOn_24 rfl ?_
      refine z_aload_n E 0 dX10_floatingOn_25 rfl ?_
      refine z_iconst E dX10_floatingOn_26 ic_0 ?_
      obtain ⟨_, e18, e⟩ := ob e
      obtain ⟨p19, e20, e⟩ := ob e
      refine z_kR2 (st := [.int a1, .ref a0]) (av := [.ref a0, .int (0 : Int32)]) E 0 0 (z_rV (st := [.int a1, .ref a0]) (av := [.int (0 : Int32)]) E Y_X10_those k_X10_142 (ci := 12) rfl (c_X10_those (z_El E) e20) dX10_floatingOn_27 e18 rfl rfl (by decide) (by decide) (by decide) (by decide) (Nat.le_of_ble_eq_true rfl)) rfl rfl rfl ?_
      obtain ⟨_, e21, e⟩ := ob e
      obtain ⟨p22, e23, e⟩ := ob e
      refine z_kR2 (st := []) (av := [.ref a0, .int a1, .int p19]) E 0 0 (z_rV (st := []) (av := [.int a1, .int p19]) E Y_X10_onPage k_X10_145 (ci := 12) rfl (c_X10_onPage (z_El E) e23) dX10_floatingOn_30 e21 rfl rfl (by decide) (by decide) (by decide) (by decide) (Nat.zero_le _)) rfl rfl rfl ?_
      obtain ⟨p24, e25, e⟩ := ob e
      refine z_kR2 (st := []) (av := [.int p22]) E 0 0 (z_rS (st := []) (av := [.int p22]) E Y_X10_bits k_X10_99 (c_X10_bits (z_El E) e25) dX10_floatingOn_33 rfl rfl (by decide) (by decide) (by decide) (by decide) (Nat.zero_le _)) rfl rfl rfl ?_
      obtain rfl := Option.some.inj e
      exact z_iret E M dX10_floatingOn_36 rfl rfl rfl rfl (by decide) (by decide)
    · refine z_if_eqF (tgt := 23) E dX10_floatingOn_16 rfl (zb_nf c17) ?_
      refine z_iconst E dX10_floatingOn_19 ic_0 ?_
      refine z_goto (tgt := 36) E dX10_floatingOn_20 rfl ?_
      obtain rfl := Option.some.inj e
      exact z_iret E M dX10_floatingOn_36 rfl rfl rfl rfl (by decide) (by decide)
theorem c_X10_floatingOn {l : Launch} (hl : l.stackTraces = false) {h : PH} {a0 : Nat} {a1 : Int32} {r : (Int32 × PH)} (e : f_X10_floatingOn h a0 a1 = some r) : CMet l yX10_floatingOn (z_W yX10_floatingOn cX10_floatingOn 2 (some .int)) rmX10_floatingOn h [.ref a0, .int a1] (.inr (some (.int r.1))) r.2 :=
  z_met hl Y_X10_floatingOn (by decide +kernel) (Nat.le_of_ble_eq_true rfl) (fun X hX E T0 M => b_X10_floatingOn E T0 e M)
abbrev rmX9_addNet : Room := { frames := 8, cells := 12, slots := 117, locals := 146 }
noncomputable def f_X9_addNet (h : PH) (a0 : Nat) (a1 : Int32) (a2 : Int32) (a3 : Int32) : Option ((String ⊕ Int32) × PH) :=
  (gd h a0 11).bind fun _ =>
  (f_X9_change h a0 (4 : Int32) a1 a2 a3).bind fun p2 =>
  Sum.elim
    (fun E4 =>
    some ((Sum.inl E4), p2.2))
    (fun y6 =>
    some ((Sum.inr y6), p2.2)) p2.1
theorem b_X9_addNet {X : PX} (E : z_E X cX9_addNet RX9 "addNet" 4 rmX9_addNet (some .int)) (T0 : z_T0 X) {h : PH} {a0 : Nat} {a1 : Int32} {a2 : Int32} {a3 : Int32} {r : ((String ⊕ Int32) × PH)} (e : f_X9_addNet h a0 a1 a2 a3 = some r) (M : z_M X rmX9_addNet.cells rmX9_addNet.slots (zoI r.1) r.2) : WP X 4 0 0 0 [(0, .ref a0), (1, .int a1), (2, .int a2), (3, .int a3)] [] h := by
  unfold f_X9_addNet at e
  refine z_aload_n E 0 dX9_addNet_0 rfl ?_
  refine z_iconst E dX9_addNet_1 ic_4 ?_
  refine z_iload_n E 1 dX9_addNet_2 rfl ?_
  refine z_iload_n E 2 dX9_addNet_3 rfl ?_
  refine z_iload_n E 3 dX9_addNet_4 rfl ?_
  obtain ⟨_, e1, e⟩ := ob e
  obtain ⟨p2, e3, e⟩ := ob e
  rcases os e with ⟨E4, c5, e⟩ | ⟨y6, c5, e⟩
  · obtain rfl := Option.some.inj e
    refine z_kX2 (st := []) (av := [.ref a0, .int (4 : Int32), .int a1, .int a2, .int a3]) E 12 117 (z_rV (st := []) (av := [.int (4 : Int32), .int a1, .int a2, .int a3]) E Y_X9_change k_X9_61 (ci := 11) rfl (zc_o (c_X9_change (z_El E) e3) (by rw [c5]; rfl)) dX9_addNet_5 e1 rfl rfl (by decide) (by decide) (by decide) (by decide) (Nat.zero_le _)) rfl rfl rfl ?_
    exact z_outX E T0 M rfl rfl (by decide) (by decide)
  · refine z_kR2 (st := []) (av := [.ref a0, .int (4 : Int32), .int a1, .int a2, .int a3]) E 12 117 (z_rV (st := []) (av := [.int (4 : Int32), .int a1, .int a2, .int a3]) E Y_X9_change k_X9_61 (ci := 11) rfl (zc_o (c_X9_change (z_El E) e3) (by rw [c5]; rfl)) dX9_addNet_5 e1 rfl rfl (by decide) (by decide) (by decide) (by decide) (Nat.zero_le _)) rfl rfl rfl ?_
    obtain rfl := Option.some.inj e
    exact z_iret E M dX9_addNet_8 rfl rfl rfl rfl (by decide) (by decide)
theorem c_X9_addNet {l : Launch} (hl : l.stackTraces = false) {h : PH} {a0 : Nat} {a1 : Int32} {a2 : Int32} {a3 : Int32} {r : ((String ⊕ Int32) × PH)} (e : f_X9_addNet h a0 a1 a2 a3 = some r) : CMet l yX9_addNet (z_W yX9_addNet cX9_addNet 4 (some .int)) rmX9_addNet h [.ref a0, .int a1, .int a2, .int a3] (zoI r.1) r.2 :=
  z_met hl Y_X9_addNet (by decide +kernel) (Nat.le_of_ble_eq_true rfl) (fun X hX E T0 M => b_X9_addNet E T0 e M)
abbrev rmL_addNet : Room := { frames := 9, cells := 12, slots := 117, locals := 169 }
noncomputable def f_L_addNet (h : PH) (a0 : Nat) (a1 : Int32) (a2 : Int32) (a3 : Int32) (a4 : Nat) : Option (Int32 × PH) :=
  (gd h a0 11).bind fun _ =>
  (f_X9_addNet h a0 a1 a2 a3).bind fun p2 =>
  Sum.elim
    (fun E4 =>
    if E4 = "java/lang/IllegalArgumentException" then
      some ((1 : Int32), p2.2)
    else if E4 = "java/lang/UnsupportedOperationException" then
      some ((2 : Int32), p2.2)
    else none)
    (fun y6 =>
    (asL p2.2 a4 (0 : Int32) y6.toInt64).bind fun h9 =>
    some ((0 : Int32), h9)) p2.1
theorem b_L_addNet {X : PX} (E : z_E X cL_addNet RL "addNet" 6 rmL_addNet (some .int)) (TT : z_TT X [(0, 12, 15, 13), (0, 12, 19, 15)]) {h : PH} {a0 : Nat} {a1 : Int32} {a2 : Int32} {a3 : Int32} {a4 : Nat} {r : (Int32 × PH)} (e : f_L_addNet h a0 a1 a2 a3 a4 = some r) (M : z_M X rmL_addNet.cells rmL_addNet.slots (.inr (some (.int r.1))) r.2) : WP X 6 0 0 0 [(0, .ref a0), (1, .int a1), (2, .int a2), (3, .int a3), (4, .ref a4)] [] h := by
  unfold f_L_addNet at e
  refine z_aload E 4 dL_addNet_0 rfl ?_
  refine z_iconst E dL_addNet_2 ic_0 ?_
  refine z_aload_n E 0 dL_addNet_3 rfl ?_
  refine z_iload_n E 1 dL_addNet_4 rfl ?_
  refine z_iload_n E 2 dL_addNet_5 rfl ?_
  refine z_iload_n E 3 dL_addNet_6 rfl ?_
  obtain ⟨_, e1, e⟩ := ob e
  obtain ⟨p2, e3, e⟩ := ob e
  rcases os e with ⟨E4, c5, e⟩ | ⟨y6, c5, e⟩
  · rcases oi e with ⟨c7, e⟩ | ⟨c7, e⟩
    · subst c7
      refine z_kX2 (st := [.int (0 : Int32), .ref a4]) (av := [.ref a0, .int a1, .int a2, .int a3]) E 12 117 (z_rV (st := [.int (0 : Int32), .ref a4]) (av := [.int a1, .int a2, .int a3]) E Y_X9_addNet k_L_70 (ci := 11) rfl (zc_o (c_X9_addNet (z_El E) e3) (by rw [c5]; rfl)) dL_addNet_7 e1 rfl rfl (by decide) (by decide) (by decide) (by decide) (Nat.le_of_ble_eq_true rfl)) rfl rfl rfl ?_
      refine z_catch (lv2 := [(0, .ref a0), (1, .int a1), (2, .int a2), (3, .int a3), (4, .ref a4)]) E TT 0 (q := (0, 12, 15, 13)) rfl rfl (by decide) cl_L_13 kb_IllegalArgumentException (fun z hz => nomatch hz) (Or.inr ⟨dL_addNet_15, rfl⟩) (by decide) rfl ?_
      refine z_iconst E dL_addNet_17 ic_1 ?_
      obtain rfl := Option.some.inj e
      exact z_iret E M dL_addNet_18 rfl rfl rfl rfl (by decide) (by decide)
    rcases oi e with ⟨c8, e⟩ | ⟨c8, e⟩
    · subst c8
      refine z_kX2 (st := [.int (0 : Int32), .ref a4]) (av := [.ref a0, .int a1, .int a2, .int a3]) E 12 117 (z_rV (st := [.int (0 : Int32), .ref a4]) (av := [.int a1, .int a2, .int a3]) E Y_X9_addNet k_L_70 (ci := 11) rfl (zc_o (c_X9_addNet (z_El E) e3) (by rw [c5]; rfl)) dL_addNet_7 e1 rfl rfl (by decide) (by decide) (by decide) (by decide) (Nat.le_of_ble_eq_true rfl)) rfl rfl rfl ?_
      refine z_catch (lv2 := [(0, .ref a0), (1, .int a1), (2, .int a2), (3, .int a3), (4, .ref a4)]) E TT 1 (q := (0, 12, 19, 15)) rfl rfl (by decide) cl_L_15 kb_UnsupportedOperationException (List.forall_mem_cons.mpr ⟨⟨by decide, "java/lang/IllegalArgumentException", cl_L_13, nc_UnsupportedOperationException_IllegalArgumentException⟩, (fun z hz => nomatch hz)⟩) (Or.inr ⟨dL_addNet_19, rfl⟩) (by decide) rfl ?_
      refine z_iconst E dL_addNet_21 ic_2 ?_
      obtain rfl := Option.some.inj e
      exact z_iret E M dL_addNet_22 rfl rfl rfl rfl (by decide) (by decide)
    cases e
  · refine z_kR2 (st := [.int (0 : Int32), .ref a4]) (av := [.ref a0, .int a1, .int a2, .int a3]) E 12 117 (z_rV (st := [.int (0 : Int32), .ref a4]) (av := [.int a1, .int a2, .int a3]) E Y_X9_addNet k_L_70 (ci := 11) rfl (zc_o (c_X9_addNet (z_El E) e3) (by rw [c5]; rfl)) dL_addNet_7 e1 rfl rfl (by decide) (by decide) (by decide) (by decide) (Nat.le_of_ble_eq_true rfl)) rfl rfl rfl ?_
    refine z_i2l (v := y6.toInt64) E dL_addNet_10 rfl ?_
    obtain ⟨h9, e10, e⟩ := ob e
    refine z_last E dL_addNet_11 e10 ?_
    refine z_goto (tgt := 23) E dL_addNet_12 rfl ?_
    refine z_iconst E dL_addNet_23 ic_0 ?_
    obtain rfl := Option.some.inj e
    exact z_iret E M dL_addNet_24 rfl rfl rfl rfl (by decide) (by decide)
theorem c_L_addNet {l : Launch} (hl : l.stackTraces = false) {h : PH} {a0 : Nat} {a1 : Int32} {a2 : Int32} {a3 : Int32} {a4 : Nat} {r : (Int32 × PH)} (e : f_L_addNet h a0 a1 a2 a3 a4 = some r) : CMet l yL_addNet (z_WH yL_addNet cL_addNet 6 (some .int) [(0, 12, 15, 13), (0, 12, 19, 15)]) rmL_addNet h [.ref a0, .int a1, .int a2, .int a3, .ref a4] (.inr (some (.int r.1))) r.2 :=
  z_metH hl Y_L_addNet (by decide +kernel) (Nat.le_of_ble_eq_true rfl) (fun X hX E T0 M => b_L_addNet E T0 e M)
abbrev rmX10_addNet : Room := { frames := 2, cells := 0, slots := 0, locals := 46 }
noncomputable def f_X10_addNet_J33 (h : PH) (v0 : Nat) (v1 : Int32) (v2 : Int32) (v3 : Int32) (w0 : Int32) (w1 : Nat) : Option (Int32 × PH) :=
  (gd h w1 12).bind fun _ =>
  (f_X10_fails h w1 w0).bind fun p2 =>
  if p2.1 = false then
    (rdR p2.2 v0 12 0).bind fun x5 =>
    (alI .int p2.2 x5 (1 : Int32)).bind fun x7 =>
    if ¬ x7 = (5 : Int32) then
      (rdR p2.2 v0 12 0).bind fun x10 =>
      (gd p2.2 v0 12).bind fun _ =>
      (f_X10_keeps p2.2 v0 x10).bind fun p13 =>
      (rdR p13 v0 12 0).bind fun x15 =>
      (alI .int p13 x15 (1 : Int32)).bind fun x17 =>
      (rdR p13 v0 12 0).bind fun x19 =>
      (asI .int p13 x19 (((84 : Int32) + ((3 : Int32) * x17)) + (0 : Int32)) v1).bind fun h21 =>
      (rdR h21 v0 12 0).bind fun x23 =>
      (asI .int h21 x23 (((84 : Int32) + ((3 : Int32) * x17)) + (1 : Int32)) v2).bind fun h25 =>
      (rdR h25 v0 12 0).bind fun x27 =>
      (asI .int h25 x27 (((84 : Int32) + ((3 : Int32) * x17)) + (2 : Int32)) v3).bind fun h29 =>
      (rdR h29 v0 12 0).bind fun x31 =>
      (alI .int h29 x31 (1 : Int32)).bind fun x33 =>
      (asI .int h29 x31 (1 : Int32) (x33 + (1 : Int32))).bind fun h35 =>
      (rdR h35 v0 12 0).bind fun x37 =>
      (alI .int h35 x37 (1 : Int32)).bind fun x39 =>
      some ((x39 - (1 : Int32)), h35)
    else
      (gd p2.2 v0 12).bind fun _ =>
      (f_X10_denies p2.2 v0 (2 : Int32) (1 : Int32) (5 : Int32)).bind fun p42 =>
      some (p42.1, p42.2)
  else
    some ((0 : Int32), p2.2)
theorem b_X10_addNet_J33 {X : PX} (E : z_E X cX10_addNet RX10 "addNet" 5 rmX10_addNet (some .int)) (T0 : z_T0 X) {k n : Nat} (hk : k + 0 ≤ rmX10_addNet.cells) (hn : n + 0 ≤ rmX10_addNet.slots) {h : PH} {v0 : Nat} {v1 : Int32} {v2 : Int32} {v3 : Int32} {w0 : Int32} {w1 : Nat} {r : (Int32 × PH)} (e : f_X10_addNet_J33 h v0 v1 v2 v3 w0 w1 = some r) (M : z_M X rmX10_addNet.cells rmX10_addNet.slots (.inr (some (.int r.1))) r.2) : WP X 5 k n 33 [(0, .ref v0), (1, .int v1), (2, .int v2), (3, .int v3)] [.int w0, .ref w1] h := by
  unfold f_X10_addNet_J33 at e
  obtain ⟨_, e1, e⟩ := ob e
  obtain ⟨p2, e3, e⟩ := ob e
  refine z_kR2 (st := []) (av := [.ref w1, .int w0]) E k n (z_rV (st := []) (av := [.int w0]) E Y_X10_fails k_X10_70 (ci := 12) rfl (c_X10_fails (z_El E) e3) dX10_addNet_33 e1 rfl rfl (by decide) (by decide) (zk (k := k) (a := 0) hk (by decide)) (zk (k := n) (a := 0) hn (by decide)) (Nat.zero_le _)) rfl rfl rfl ?_
  rcases oi e with ⟨c4, e⟩ | ⟨c4, e⟩
  · refine z_if_eqT (tgt := 41) E dX10_addNet_36 rfl (zb_f c4) ?_
    refine z_aload_n E 0 dX10_addNet_41 rfl ?_
    obtain ⟨x5, e6, e⟩ := ob e
    refine z_getR E fl_X10_7 dX10_addNet_42 e6 ?_
    refine z_iconst E dX10_addNet_45 ic_1 ?_
    obtain ⟨x7, e8, e⟩ := ob e
    refine z_iald E dX10_addNet_46 e8 ?_
    refine z_iconst E dX10_addNet_47 ic_5 ?_
    rcases oi e with ⟨c9, e⟩ | ⟨c9, e⟩
    · refine z_icmp_neT (tgt := 59) E dX10_addNet_48 rfl c9 ?_
      refine z_aload_n E 0 dX10_addNet_59 rfl ?_
      refine z_aload_n E 0 dX10_addNet_60 rfl ?_
      obtain ⟨x10, e11, e⟩ := ob e
      refine z_getR E fl_X10_7 dX10_addNet_61 e11 ?_
      obtain ⟨_, e12, e⟩ := ob e
      obtain ⟨p13, e14, e⟩ := ob e
      refine z_kV2 (st := []) (av := [.ref v0, .ref x10]) E k n (z_rV (st := []) (av := [.ref x10]) E Y_X10_keeps k_X10_84 (ci := 12) rfl (c_X10_keeps (z_El E) e14) dX10_addNet_64 e12 rfl rfl (by decide) (by decide) (zk (k := k) (a := 0) hk (by decide)) (zk (k := n) (a := 0) hn (by decide)) (Nat.zero_le _)) rfl rfl rfl ?_
      refine z_bipush E dX10_addNet_67 bp_84 ?_
      refine z_iconst E dX10_addNet_69 ic_3 ?_
      refine z_aload_n E 0 dX10_addNet_70 rfl ?_
      obtain ⟨x15, e16, e⟩ := ob e
      refine z_getR E fl_X10_7 dX10_addNet_71 e16 ?_
      refine z_iconst E dX10_addNet_74 ic_1 ?_
      obtain ⟨x17, e18, e⟩ := ob e
      refine z_iald E dX10_addNet_75 e18 ?_
      refine z_imul E dX10_addNet_76 ?_
      refine z_iadd E dX10_addNet_77 ?_
      refine z_istore (lv2 := [(4, .int ((84 : Int32) + ((3 : Int32) * x17))), (0, .ref v0), (1, .int v1), (2, .int v2), (3, .int v3)]) E dX10_addNet_78 (by decide) rfl ?_
      refine z_aload_n E 1 dX10_addNet_80 rfl ?_
      obtain ⟨x19, e20, e⟩ := ob e
      refine z_getR E fl_X10_7 dX10_addNet_81 e20 ?_
      refine z_iload E 0 dX10_addNet_84 rfl ?_
      refine z_iconst E dX10_addNet_86 ic_0 ?_
      refine z_iadd E dX10_addNet_87 ?_
      refine z_iload_n E 2 dX10_addNet_88 rfl ?_
      obtain ⟨h21, e22, e⟩ := ob e
      refine z_iast E dX10_addNet_89 e22 ?_
      refine z_aload_n E 1 dX10_addNet_90 rfl ?_
      obtain ⟨x23, e24, e⟩ := ob e
      refine z_getR E fl_X10_7 dX10_addNet_91 e24 ?_
      refine z_iload E 0 dX10_addNet_94 rfl ?_
      refine z_iconst E dX10_addNet_96 ic_1 ?_
      refine z_iadd E dX10_addNet_97 ?_
      refine z_iload_n E 3 dX10_addNet_98 rfl ?_
      obtain ⟨h25, e26, e⟩ := ob e
      refine z_iast E dX10_addNet_99 e26 ?_
      refine z_aload_n E 1 dX10_addNet_100 rfl ?_
      obtain ⟨x27, e28, e⟩ := ob e
      refine z_getR E fl_X10_7 dX10_addNet_101 e28 ?_
      refine z_iload E 0 dX10_addNet_104 rfl ?_
      refine z_iconst E dX10_addNet_106 ic_2 ?_
      refine z_iadd E dX10_addNet_107 ?_
      refine z_iload_n E 4 dX10_addNet_108 rfl ?_
      obtain ⟨h29, e30, e⟩ := ob e
      refine z_iast E dX10_addNet_109 e30 ?_
      refine z_aload_n E 1 dX10_addNet_110 rfl ?_
      obtain ⟨x31, e32, e⟩ := ob e
      refine z_getR E fl_X10_7 dX10_addNet_111 e32 ?_
      refine z_iconst E dX10_addNet_114 ic_1 ?_
      refine z_dup2 E dX10_addNet_115 rfl rfl ?_
      obtain ⟨x33, e34, e⟩ := ob e
      refine z_iald E dX10_addNet_116 e34 ?_
      refine z_iconst E dX10_addNet_117 ic_1 ?_
      refine z_iadd E dX10_addNet_118 ?_
      obtain ⟨h35, e36, e⟩ := ob e
      refine z_iast E dX10_addNet_119 e36 ?_
      refine z_aload_n E 1 dX10_addNet_120 rfl ?_
      obtain ⟨x37, e38, e⟩ := ob e
      refine z_getR E fl_X10_7 dX10_addNet_121 e38 ?_
      refine z_iconst E dX10_addNet_124 ic_1 ?_
      obtain ⟨x39, e40, e⟩ := ob e
      refine z_iald E dX10_addNet_125 e40 ?_
      refine z_iconst E dX10_addNet_126 ic_1 ?_
      refine z_isub E dX10_addNet_127 ?_
      obtain rfl := Option.some.inj e
      exact z_iret E M dX10_addNet_128 rfl rfl rfl rfl (zk (k := k) (a := 0) hk (by decide)) (zk (k := n) (a := 0) hn (by decide))
    · refine z_icmp_neF (tgt := 59) E dX10_addNet_48 rfl (Classical.not_not.mp c9) ?_
      refine z_aload_n E 0 dX10_addNet_51 rfl ?_
      refine z_iconst E dX10_addNet_52 ic_2 ?_
      refine z_iconst E dX10_addNet_53 ic_1 ?_
      refine z_iconst E dX10_addNet_54 ic_5 ?_
      obtain ⟨_, e41, e⟩ := ob e
      obtain ⟨p42, e43, e⟩ := ob e
      refine z_kR2 (st := []) (av := [.ref v0, .int (2 : Int32), .int (1 : Int32), .int (5 : Int32)]) E k n (z_rV (st := []) (av := [.int (2 : Int32), .int (1 : Int32), .int (5 : Int32)]) E Y_X10_denies k_X10_80 (ci := 12) rfl (c_X10_denies (z_El E) e43) dX10_addNet_55 e41 rfl rfl (by decide) (by decide) (zk (k := k) (a := 0) hk (by decide)) (zk (k := n) (a := 0) hn (by decide)) (Nat.zero_le _)) rfl rfl rfl ?_
      obtain rfl := Option.some.inj e
      exact z_iret E M dX10_addNet_58 rfl rfl rfl rfl (zk (k := k) (a := 0) hk (by decide)) (zk (k := n) (a := 0) hn (by decide))
  · refine z_if_eqF (tgt := 41) E dX10_addNet_36 rfl (zb_nf c4) ?_
    refine z_iconst E dX10_addNet_39 ic_0 ?_
    obtain rfl := Option.some.inj e
    exact z_iret E M dX10_addNet_40 rfl rfl rfl rfl (zk (k := k) (a := 0) hk (by decide)) (zk (k := n) (a := 0) hn (by decide))
noncomputable def f_X10_addNet_J32 (h : PH) (v0 : Nat) (v1 : Int32) (v2 : Int32) (v3 : Int32) (w0 : Nat) : Option (Int32 × PH) :=
  f_X10_addNet_J33 h v0 v1 v2 v3 (1 : Int32) w0
theorem b_X10_addNet_J32 {X : PX} (E : z_E X cX10_addNet RX10 "addNet" 5 rmX10_addNet (some .int)) (T0 : z_T0 X) {k n : Nat} (hk : k + 0 ≤ rmX10_addNet.cells) (hn : n + 0 ≤ rmX10_addNet.slots) {h : PH} {v0 : Nat} {v1 : Int32} {v2 : Int32} {v3 : Int32} {w0 : Nat} {r : (Int32 × PH)} (e : f_X10_addNet_J32 h v0 v1 v2 v3 w0 = some r) (M : z_M X rmX10_addNet.cells rmX10_addNet.slots (.inr (some (.int r.1))) r.2) : WP X 5 k n 32 [(0, .ref v0), (1, .int v1), (2, .int v2), (3, .int v3)] [.ref w0] h := by
  unfold f_X10_addNet_J32 at e
  refine z_iconst E dX10_addNet_32 ic_1 ?_
  exact z_sub [0, 1, 2, 3] rfl (b_X10_addNet_J33 E T0 (zk (k := k) (a := 0) hk (by decide)) (zk (k := n) (a := 0) hn (by decide)) e M)
noncomputable def f_X10_addNet (h : PH) (a0 : Nat) (a1 : Int32) (a2 : Int32) (a3 : Int32) : Option (Int32 × PH) :=
  if (f_X10_isPage a1) = false then
    f_X10_addNet_J32 h a0 a1 a2 a3 a0
  else
    if (f_X10_in a2 (1 : Int32) (12 : Int32)) = false then
      f_X10_addNet_J32 h a0 a1 a2 a3 a0
    else
      if (f_X10_in a3 (1 : Int32) (30 : Int32)) = false then
        f_X10_addNet_J32 h a0 a1 a2 a3 a0
      else
        f_X10_addNet_J33 h a0 a1 a2 a3 (0 : Int32) a0
theorem b_X10_addNet {X : PX} (E : z_E X cX10_addNet RX10 "addNet" 5 rmX10_addNet (some .int)) (T0 : z_T0 X) {h : PH} {a0 : Nat} {a1 : Int32} {a2 : Int32} {a3 : Int32} {r : (Int32 × PH)} (e : f_X10_addNet h a0 a1 a2 a3 = some r) (M : z_M X rmX10_addNet.cells rmX10_addNet.slots (.inr (some (.int r.1))) r.2) : WP X 5 0 0 0 [(0, .ref a0), (1, .int a1), (2, .int a2), (3, .int a3)] [] h := by
  unfold f_X10_addNet at e
  refine z_aload_n E 0 dX10_addNet_0 rfl ?_
  refine z_iload_n E 1 dX10_addNet_1 rfl ?_
  refine z_kR2 (st := [.ref a0]) (av := [.int a1]) E 0 0 (z_rS (st := [.ref a0]) (av := [.int a1]) E Y_X10_isPage k_X10_77 (c_X10_isPage (l := z_l X) (h := h) (z_El E) a1) dX10_addNet_2 rfl rfl (by decide) (by decide) (by decide) (by decide) (Nat.le_of_ble_eq_true rfl)) rfl rfl rfl ?_
  rcases oi e with ⟨c1, e⟩ | ⟨c1, e⟩
  · refine z_if_eqT (tgt := 32) E dX10_addNet_5 rfl (zb_f c1) ?_
    exact z_sub [0, 1, 2, 3] rfl (b_X10_addNet_J32 E T0 (by decide) (by decide) e M)
  · refine z_if_eqF (tgt := 32) E dX10_addNet_5 rfl (zb_nf c1) ?_
    refine z_iload_n E 2 dX10_addNet_8 rfl ?_
    refine z_iconst E dX10_addNet_9 ic_1 ?_
    refine z_bipush E dX10_addNet_10 bp_12 ?_
    refine z_kR2 (st := [.ref a0]) (av := [.int a2, .int (1 : Int32), .int (12 : Int32)]) E 0 0 (z_rS (st := [.ref a0]) (av := [.int a2, .int (1 : Int32), .int (12 : Int32)]) E Y_X10_in k_X10_62 (c_X10_in (l := z_l X) (h := h) (z_El E) a2 (1 : Int32) (12 : Int32)) dX10_addNet_12 rfl rfl (by decide) (by decide) (by decide) (by decide) (Nat.le_of_ble_eq_true rfl)) rfl rfl rfl ?_
    rcases oi e with ⟨c2, e⟩ | ⟨c2, e⟩
    · refine z_if_eqT (tgt := 32) E dX10_addNet_15 rfl (zb_f c2) ?_
      exact z_sub [0, 1, 2, 3] rfl (b_X10_addNet_J32 E T0 (by decide) (by decide) e M)
    · refine z_if_eqF (tgt := 32) E dX10_addNet_15 rfl (zb_nf c2) ?_
      refine z_iload_n E 3 dX10_addNet_18 rfl ?_
      refine z_iconst E dX10_addNet_19 ic_1 ?_
      refine z_bipush E dX10_addNet_20 bp_30 ?_
      refine z_kR2 (st := [.ref a0]) (av := [.int a3, .int (1 : Int32), .int (30 : Int32)]) E 0 0 (z_rS (st := [.ref a0]) (av := [.int a3, .int (1 : Int32), .int (30 : Int32)]) E Y_X10_in k_X10_62 (c_X10_in (l := z_l X) (h := h) (z_El E) a3 (1 : Int32) (30 : Int32)) dX10_addNet_22 rfl rfl (by decide) (by decide) (by decide) (by decide) (Nat.le_of_ble_eq_true rfl)) rfl rfl rfl ?_
      rcases oi e with ⟨c3, e⟩ | ⟨c3, e⟩
      · refine z_if_eqT (tgt := 32) E dX10_addNet_25 rfl (zb_f c3) ?_
        exact z_sub [0, 1, 2, 3] rfl (b_X10_addNet_J32 E T0 (by decide) (by decide) e M)
      · refine z_if_eqF (tgt := 32) E dX10_addNet_25 rfl (zb_nf c3) ?_
        refine z_iconst E dX10_addNet_28 ic_0 ?_
        refine z_goto (tgt := 33) E dX10_addNet_29 rfl ?_
        exact z_sub [0, 1, 2, 3] rfl (b_X10_addNet_J33 E T0 (by decide) (by decide) e M)
theorem c_X10_addNet {l : Launch} (hl : l.stackTraces = false) {h : PH} {a0 : Nat} {a1 : Int32} {a2 : Int32} {a3 : Int32} {r : (Int32 × PH)} (e : f_X10_addNet h a0 a1 a2 a3 = some r) : CMet l yX10_addNet (z_W yX10_addNet cX10_addNet 5 (some .int)) rmX10_addNet h [.ref a0, .int a1, .int a2, .int a3] (.inr (some (.int r.1))) r.2 :=
  z_met hl Y_X10_addNet (by decide +kernel) (Nat.le_of_ble_eq_true rfl) (fun X hX E T0 M => b_X10_addNet E T0 e M)
abbrev rmX9_removeNet : Room := { frames := 8, cells := 12, slots := 117, locals := 146 }
noncomputable def f_X9_removeNet (h : PH) (a0 : Nat) (a1 : Int32) : Option ((String ⊕ Int32) × PH) :=
  (gd h a0 11).bind fun _ =>
  (f_X9_change h a0 (5 : Int32) a1 (0 : Int32) (0 : Int32)).bind fun p2 =>
  Sum.elim
    (fun E4 =>
    some ((Sum.inl E4), p2.2))
    (fun y6 =>
    some ((Sum.inr y6), p2.2)) p2.1
theorem b_X9_removeNet {X : PX} (E : z_E X cX9_removeNet RX9 "removeNet" 2 rmX9_removeNet (some .int)) (T0 : z_T0 X) {h : PH} {a0 : Nat} {a1 : Int32} {r : ((String ⊕ Int32) × PH)} (e : f_X9_removeNet h a0 a1 = some r) (M : z_M X rmX9_removeNet.cells rmX9_removeNet.slots (zoI r.1) r.2) : WP X 2 0 0 0 [(0, .ref a0), (1, .int a1)] [] h := by
  unfold f_X9_removeNet at e
  refine z_aload_n E 0 dX9_removeNet_0 rfl ?_
  refine z_iconst E dX9_removeNet_1 ic_5 ?_
  refine z_iload_n E 1 dX9_removeNet_2 rfl ?_
  refine z_iconst E dX9_removeNet_3 ic_0 ?_
  refine z_iconst E dX9_removeNet_4 ic_0 ?_
  obtain ⟨_, e1, e⟩ := ob e
  obtain ⟨p2, e3, e⟩ := ob e
  rcases os e with ⟨E4, c5, e⟩ | ⟨y6, c5, e⟩
  · obtain rfl := Option.some.inj e
    refine z_kX2 (st := []) (av := [.ref a0, .int (5 : Int32), .int a1, .int (0 : Int32), .int (0 : Int32)]) E 12 117 (z_rV (st := []) (av := [.int (5 : Int32), .int a1, .int (0 : Int32), .int (0 : Int32)]) E Y_X9_change k_X9_61 (ci := 11) rfl (zc_o (c_X9_change (z_El E) e3) (by rw [c5]; rfl)) dX9_removeNet_5 e1 rfl rfl (by decide) (by decide) (by decide) (by decide) (Nat.zero_le _)) rfl rfl rfl ?_
    exact z_outX E T0 M rfl rfl (by decide) (by decide)
  · refine z_kR2 (st := []) (av := [.ref a0, .int (5 : Int32), .int a1, .int (0 : Int32), .int (0 : Int32)]) E 12 117 (z_rV (st := []) (av := [.int (5 : Int32), .int a1, .int (0 : Int32), .int (0 : Int32)]) E Y_X9_change k_X9_61 (ci := 11) rfl (zc_o (c_X9_change (z_El E) e3) (by rw [c5]; rfl)) dX9_removeNet_5 e1 rfl rfl (by decide) (by decide) (by decide) (by decide) (Nat.zero_le _)) rfl rfl rfl ?_
    obtain rfl := Option.some.inj e
    exact z_iret E M dX9_removeNet_8 rfl rfl rfl rfl (by decide) (by decide)
theorem c_X9_removeNet {l : Launch} (hl : l.stackTraces = false) {h : PH} {a0 : Nat} {a1 : Int32} {r : ((String ⊕ Int32) × PH)} (e : f_X9_removeNet h a0 a1 = some r) : CMet l yX9_removeNet (z_W yX9_removeNet cX9_removeNet 2 (some .int)) rmX9_removeNet h [.ref a0, .int a1] (zoI r.1) r.2 :=
  z_met hl Y_X9_removeNet (by decide +kernel) (Nat.le_of_ble_eq_true rfl) (fun X hX E T0 M => b_X9_removeNet E T0 e M)
abbrev rmL_removeNet : Room := { frames := 9, cells := 12, slots := 117, locals := 167 }
noncomputable def f_L_removeNet (h : PH) (a0 : Nat) (a1 : Int32) (a2 : Nat) : Option (Int32 × PH) :=
  (gd h a0 11).bind fun _ =>
  (f_X9_removeNet h a0 a1).bind fun p2 =>
  Sum.elim
    (fun E4 =>
    if E4 = "java/lang/IndexOutOfBoundsException" then
      some ((1 : Int32), p2.2)
    else none)
    (fun y6 =>
    (asL p2.2 a2 (0 : Int32) y6.toInt64).bind fun h8 =>
    some ((0 : Int32), h8)) p2.1
theorem b_L_removeNet {X : PX} (E : z_E X cL_removeNet RL "removeNet" 4 rmL_removeNet (some .int)) (TT : z_TT X [(0, 9, 12, 77)]) {h : PH} {a0 : Nat} {a1 : Int32} {a2 : Nat} {r : (Int32 × PH)} (e : f_L_removeNet h a0 a1 a2 = some r) (M : z_M X rmL_removeNet.cells rmL_removeNet.slots (.inr (some (.int r.1))) r.2) : WP X 4 0 0 0 [(0, .ref a0), (1, .int a1), (2, .ref a2)] [] h := by
  unfold f_L_removeNet at e
  refine z_aload_n E 2 dL_removeNet_0 rfl ?_
  refine z_iconst E dL_removeNet_1 ic_0 ?_
  refine z_aload_n E 0 dL_removeNet_2 rfl ?_
  refine z_iload_n E 1 dL_removeNet_3 rfl ?_
  obtain ⟨_, e1, e⟩ := ob e
  obtain ⟨p2, e3, e⟩ := ob e
  rcases os e with ⟨E4, c5, e⟩ | ⟨y6, c5, e⟩
  · rcases oi e with ⟨c7, e⟩ | ⟨c7, e⟩
    · subst c7
      refine z_kX2 (st := [.int (0 : Int32), .ref a2]) (av := [.ref a0, .int a1]) E 12 117 (z_rV (st := [.int (0 : Int32), .ref a2]) (av := [.int a1]) E Y_X9_removeNet k_L_74 (ci := 11) rfl (zc_o (c_X9_removeNet (z_El E) e3) (by rw [c5]; rfl)) dL_removeNet_4 e1 rfl rfl (by decide) (by decide) (by decide) (by decide) (Nat.le_of_ble_eq_true rfl)) rfl rfl rfl ?_
      refine z_catch (lv2 := [(0, .ref a0), (1, .int a1), (2, .ref a2)]) E TT 0 (q := (0, 9, 12, 77)) rfl rfl (by decide) cl_L_77 kb_IndexOutOfBoundsException (fun z hz => nomatch hz) (Or.inl ⟨_, dL_removeNet_12, rfl, rfl⟩) (by decide) rfl ?_
      refine z_iconst E dL_removeNet_13 ic_1 ?_
      obtain rfl := Option.some.inj e
      exact z_iret E M dL_removeNet_14 rfl rfl rfl rfl (by decide) (by decide)
    cases e
  · refine z_kR2 (st := [.int (0 : Int32), .ref a2]) (av := [.ref a0, .int a1]) E 12 117 (z_rV (st := [.int (0 : Int32), .ref a2]) (av := [.int a1]) E Y_X9_removeNet k_L_74 (ci := 11) rfl (zc_o (c_X9_removeNet (z_El E) e3) (by rw [c5]; rfl)) dL_removeNet_4 e1 rfl rfl (by decide) (by decide) (by decide) (by decide) (Nat.le_of_ble_eq_true rfl)) rfl rfl rfl ?_
    refine z_i2l (v := y6.toInt64) E dL_removeNet_7 rfl ?_
    obtain ⟨h8, e9, e⟩ := ob e
    refine z_last E dL_removeNet_8 e9 ?_
    refine z_goto (tgt := 15) E dL_removeNet_9 rfl ?_
    refine z_iconst E dL_removeNet_15 ic_0 ?_
    obtain rfl := Option.some.inj e
    exact z_iret E M dL_removeNet_16 rfl rfl rfl rfl (by decide) (by decide)
theorem c_L_removeNet {l : Launch} (hl : l.stackTraces = false) {h : PH} {a0 : Nat} {a1 : Int32} {a2 : Nat} {r : (Int32 × PH)} (e : f_L_removeNet h a0 a1 a2 = some r) : CMet l yL_removeNet (z_WH yL_removeNet cL_removeNet 4 (some .int) [(0, 9, 12, 77)]) rmL_removeNet h [.ref a0, .int a1, .ref a2] (.inr (some (.int r.1))) r.2 :=
  z_metH hl Y_L_removeNet (by decide +kernel) (Nat.le_of_ble_eq_true rfl) (fun X hX E T0 M => b_L_removeNet E T0 e M)
abbrev rmX10_isNet : Room := { frames := 1, cells := 0, slots := 0, locals := 22 }
noncomputable def f_X10_isNet (h : PH) (a0 : Nat) (a1 : Int32) : Option Bool :=
  (rdR h a0 12 0).bind fun x1 =>
  (alI .int h x1 (1 : Int32)).bind fun x3 =>
  some (f_X10_in a1 (0 : Int32) (x3 - (1 : Int32)))
theorem b_X10_isNet {X : PX} (E : z_E X cX10_isNet RX10 "isNet" 2 rmX10_isNet (some .boolean)) (T0 : z_T0 X) {h : PH} {a0 : Nat} {a1 : Int32} {r : Bool} (e : f_X10_isNet h a0 a1 = some r) (M : z_M X rmX10_isNet.cells rmX10_isNet.slots (.inr (some (.int (zb r)))) h) : WP X 2 0 0 0 [(0, .ref a0), (1, .int a1)] [] h := by
  unfold f_X10_isNet at e
  refine z_iload_n E 1 dX10_isNet_0 rfl ?_
  refine z_iconst E dX10_isNet_1 ic_0 ?_
  refine z_aload_n E 0 dX10_isNet_2 rfl ?_
  obtain ⟨x1, e2, e⟩ := ob e
  refine z_getR E fl_X10_7 dX10_isNet_3 e2 ?_
  refine z_iconst E dX10_isNet_6 ic_1 ?_
  obtain ⟨x3, e4, e⟩ := ob e
  refine z_iald E dX10_isNet_7 e4 ?_
  refine z_iconst E dX10_isNet_8 ic_1 ?_
  refine z_isub E dX10_isNet_9 ?_
  refine z_kR2 (st := []) (av := [.int a1, .int (0 : Int32), .int (x3 - (1 : Int32))]) E 0 0 (z_rS (st := []) (av := [.int a1, .int (0 : Int32), .int (x3 - (1 : Int32))]) E Y_X10_in k_X10_62 (c_X10_in (l := z_l X) (h := h) (z_El E) a1 (0 : Int32) (x3 - (1 : Int32))) dX10_isNet_10 rfl rfl (by decide) (by decide) (by decide) (by decide) (Nat.zero_le _)) rfl rfl rfl ?_
  obtain rfl := Option.some.inj e
  exact z_iret E M dX10_isNet_13 rfl (zb_nar _) rfl rfl (by decide) (by decide)
theorem c_X10_isNet {l : Launch} (hl : l.stackTraces = false) {h : PH} {a0 : Nat} {a1 : Int32} {r : Bool} (e : f_X10_isNet h a0 a1 = some r) : CMet l yX10_isNet (z_W yX10_isNet cX10_isNet 2 (some .boolean)) rmX10_isNet h [.ref a0, .int a1] (.inr (some (.int (zb r)))) h :=
  z_met hl Y_X10_isNet (by decide +kernel) (Nat.le_of_ble_eq_true rfl) (fun X hX E T0 M => b_X10_isNet E T0 e M)
abbrev rmX10_removeNet : Room := { frames := 2, cells := 0, slots := 0, locals := 46 }
noncomputable def f_X10_removeNet_L47 : Nat → PH → Nat → Int32 → Option PH
  | 0, _, _, _ => none
  | fu + 1, h, v0, v2 =>
    (rdR h v0 12 0).bind fun x1 =>
    (alI .int h x1 (1 : Int32)).bind fun x3 =>
    if ((84 : Int32) + ((3 : Int32) * x3)) ≤ v2 then
      some h
    else
      (rdR h v0 12 0).bind fun x6 =>
      (rdR h v0 12 0).bind fun x8 =>
      (alI .int h x8 (v2 + (3 : Int32))).bind fun x10 =>
      (asI .int h x6 v2 x10).bind fun h12 =>
      f_X10_removeNet_L47 fu h12 v0 (v2 + (1 : Int32))
theorem b_X10_removeNet_L47 {X : PX} (E : z_E X cX10_removeNet RX10 "removeNet" 3 rmX10_removeNet (some .int)) (T0 : z_T0 X) {k n : Nat} (hk : k + 0 ≤ rmX10_removeNet.cells) (hn : n + 0 ≤ rmX10_removeNet.slots) {s : PH} : ∀ (fu : Nat) (h : PH) (v0 : Nat) (v2 : Int32) (e : f_X10_removeNet_L47 fu h v0 v2 = some s) (kk : WP X 3 k n 82 [(0, .ref v0)] [] s), WP X 3 k n 47 [(0, .ref v0), (2, .int v2)] [] h := by
  intro fu
  induction fu with
  | zero => intro h v0 v2 e; exact absurd (show (none : Option PH) = some s from e) (by intro z; cases z)
  | succ fu ih =>
    intro h v0 v2 e kk
    unfold f_X10_removeNet_L47 at e
    refine z_iload_n E 1 dX10_removeNet_47 rfl ?_
    refine z_bipush E dX10_removeNet_48 bp_84 ?_
    refine z_iconst E dX10_removeNet_50 ic_3 ?_
    refine z_aload_n E 0 dX10_removeNet_51 rfl ?_
    obtain ⟨x1, e2, e⟩ := ob e
    refine z_getR E fl_X10_7 dX10_removeNet_52 e2 ?_
    refine z_iconst E dX10_removeNet_55 ic_1 ?_
    obtain ⟨x3, e4, e⟩ := ob e
    refine z_iald E dX10_removeNet_56 e4 ?_
    refine z_imul E dX10_removeNet_57 ?_
    refine z_iadd E dX10_removeNet_58 ?_
    rcases oi e with ⟨c5, e⟩ | ⟨c5, e⟩
    · refine z_icmp_geT (tgt := 82) E dX10_removeNet_59 rfl c5 ?_
      obtain rfl := Option.some.inj e
      exact z_sub [0] rfl kk
    · refine z_icmp_geF (tgt := 82) E dX10_removeNet_59 rfl c5 ?_
      refine z_aload_n E 0 dX10_removeNet_62 rfl ?_
      obtain ⟨x6, e7, e⟩ := ob e
      refine z_getR E fl_X10_7 dX10_removeNet_63 e7 ?_
      refine z_iload_n E 1 dX10_removeNet_66 rfl ?_
      refine z_aload_n E 0 dX10_removeNet_67 rfl ?_
      obtain ⟨x8, e9, e⟩ := ob e
      refine z_getR E fl_X10_7 dX10_removeNet_68 e9 ?_
      refine z_iload_n E 1 dX10_removeNet_71 rfl ?_
      refine z_iconst E dX10_removeNet_72 ic_3 ?_
      refine z_iadd E dX10_removeNet_73 ?_
      obtain ⟨x10, e11, e⟩ := ob e
      refine z_iald E dX10_removeNet_74 e11 ?_
      obtain ⟨h12, e13, e⟩ := ob e
      refine z_iast E dX10_removeNet_75 e13 ?_
      refine z_iinc (v := (v2 + (1 : Int32))) (lv2 := [(2, .int (v2 + (1 : Int32))), (0, .ref v0)]) E 1 dX10_removeNet_76 rfl (congrArg (v2 + ·) ic_1) (by decide) rfl ?_
      refine z_goto (tgt := 47) E dX10_removeNet_79 rfl ?_
      exact z_sub [1, 0] rfl (ih _ _ _ e kk)
noncomputable def f_X10_removeNet_L84 : Nat → PH → Nat → Int32 → Option PH
  | 0, _, _, _ => none
  | fu + 1, h, v0, v2 =>
    if (3 : Int32) ≤ v2 then
      some h
    else
      (rdR h v0 12 0).bind fun x2 =>
      (rdR h v0 12 0).bind fun x4 =>
      (alI .int h x4 (1 : Int32)).bind fun x6 =>
      (asI .int h x2 (((84 : Int32) + ((3 : Int32) * x6)) + v2) (0 : Int32)).bind fun h8 =>
      f_X10_removeNet_L84 fu h8 v0 (v2 + (1 : Int32))
theorem b_X10_removeNet_L84 {X : PX} (E : z_E X cX10_removeNet RX10 "removeNet" 3 rmX10_removeNet (some .int)) (T0 : z_T0 X) {k n : Nat} (hk : k + 0 ≤ rmX10_removeNet.cells) (hn : n + 0 ≤ rmX10_removeNet.slots) {s : PH} : ∀ (fu : Nat) (h : PH) (v0 : Nat) (v2 : Int32) (e : f_X10_removeNet_L84 fu h v0 v2 = some s) (kk : WP X 3 k n 114 [(0, .ref v0)] [] s), WP X 3 k n 84 [(0, .ref v0), (2, .int v2)] [] h := by
  intro fu
  induction fu with
  | zero => intro h v0 v2 e; exact absurd (show (none : Option PH) = some s from e) (by intro z; cases z)
  | succ fu ih =>
    intro h v0 v2 e kk
    unfold f_X10_removeNet_L84 at e
    refine z_iload_n E 1 dX10_removeNet_84 rfl ?_
    refine z_iconst E dX10_removeNet_85 ic_3 ?_
    rcases oi e with ⟨c1, e⟩ | ⟨c1, e⟩
    · refine z_icmp_geT (tgt := 114) E dX10_removeNet_86 rfl c1 ?_
      obtain rfl := Option.some.inj e
      exact z_sub [0] rfl kk
    · refine z_icmp_geF (tgt := 114) E dX10_removeNet_86 rfl c1 ?_
      refine z_aload_n E 0 dX10_removeNet_89 rfl ?_
      obtain ⟨x2, e3, e⟩ := ob e
      refine z_getR E fl_X10_7 dX10_removeNet_90 e3 ?_
      refine z_bipush E dX10_removeNet_93 bp_84 ?_
      refine z_iconst E dX10_removeNet_95 ic_3 ?_
      refine z_aload_n E 0 dX10_removeNet_96 rfl ?_
      obtain ⟨x4, e5, e⟩ := ob e
      refine z_getR E fl_X10_7 dX10_removeNet_97 e5 ?_
      refine z_iconst E dX10_removeNet_100 ic_1 ?_
      obtain ⟨x6, e7, e⟩ := ob e
      refine z_iald E dX10_removeNet_101 e7 ?_
      refine z_imul E dX10_removeNet_102 ?_
      refine z_iadd E dX10_removeNet_103 ?_
      refine z_iload_n E 1 dX10_removeNet_104 rfl ?_
      refine z_iadd E dX10_removeNet_105 ?_
      refine z_iconst E dX10_removeNet_106 ic_0 ?_
      obtain ⟨h8, e9, e⟩ := ob e
      refine z_iast E dX10_removeNet_107 e9 ?_
      refine z_iinc (v := (v2 + (1 : Int32))) (lv2 := [(2, .int (v2 + (1 : Int32))), (0, .ref v0)]) E 1 dX10_removeNet_108 rfl (congrArg (v2 + ·) ic_1) (by decide) rfl ?_
      refine z_goto (tgt := 84) E dX10_removeNet_111 rfl ?_
      exact z_sub [1, 0] rfl (ih _ _ _ e kk)
noncomputable def f_X10_removeNet_J14 (h : PH) (v0 : Nat) (v1 : Int32) (w0 : Int32) (w1 : Nat) : Option (Int32 × PH) :=
  (gd h w1 12).bind fun _ =>
  (f_X10_fails h w1 w0).bind fun p2 =>
  if p2.1 = false then
    (rdR p2.2 v0 12 0).bind fun x5 =>
    (gd p2.2 v0 12).bind fun _ =>
    (f_X10_keeps p2.2 v0 x5).bind fun p8 =>
    (rdR p8 v0 12 0).bind fun x10 =>
    (alI .int p8 x10 (1 : Int32)).bind fun x12 =>
    (asI .int p8 x10 (1 : Int32) (x12 - (1 : Int32))).bind fun h14 =>
    (f_X10_removeNet_L47 FV h14 v0 ((84 : Int32) + ((3 : Int32) * v1))).bind fun s16 =>
    (f_X10_removeNet_L84 FV s16 v0 (0 : Int32)).bind fun s18 =>
    (rdR s18 v0 12 0).bind fun x20 =>
    (alI .int s18 x20 (1 : Int32)).bind fun x22 =>
    some (x22, s18)
  else
    some ((0 : Int32), p2.2)
theorem b_X10_removeNet_J14 {X : PX} (E : z_E X cX10_removeNet RX10 "removeNet" 3 rmX10_removeNet (some .int)) (T0 : z_T0 X) {k n : Nat} (hk : k + 0 ≤ rmX10_removeNet.cells) (hn : n + 0 ≤ rmX10_removeNet.slots) {h : PH} {v0 : Nat} {v1 : Int32} {w0 : Int32} {w1 : Nat} {r : (Int32 × PH)} (e : f_X10_removeNet_J14 h v0 v1 w0 w1 = some r) (M : z_M X rmX10_removeNet.cells rmX10_removeNet.slots (.inr (some (.int r.1))) r.2) : WP X 3 k n 14 [(0, .ref v0), (1, .int v1)] [.int w0, .ref w1] h := by
  unfold f_X10_removeNet_J14 at e
  obtain ⟨_, e1, e⟩ := ob e
  obtain ⟨p2, e3, e⟩ := ob e
  refine z_kR2 (st := []) (av := [.ref w1, .int w0]) E k n (z_rV (st := []) (av := [.int w0]) E Y_X10_fails k_X10_70 (ci := 12) rfl (c_X10_fails (z_El E) e3) dX10_removeNet_14 e1 rfl rfl (by decide) (by decide) (zk (k := k) (a := 0) hk (by decide)) (zk (k := n) (a := 0) hn (by decide)) (Nat.zero_le _)) rfl rfl rfl ?_
  rcases oi e with ⟨c4, e⟩ | ⟨c4, e⟩
  · refine z_if_eqT (tgt := 22) E dX10_removeNet_17 rfl (zb_f c4) ?_
    refine z_aload_n E 0 dX10_removeNet_22 rfl ?_
    refine z_aload_n E 0 dX10_removeNet_23 rfl ?_
    obtain ⟨x5, e6, e⟩ := ob e
    refine z_getR E fl_X10_7 dX10_removeNet_24 e6 ?_
    obtain ⟨_, e7, e⟩ := ob e
    obtain ⟨p8, e9, e⟩ := ob e
    refine z_kV2 (st := []) (av := [.ref v0, .ref x5]) E k n (z_rV (st := []) (av := [.ref x5]) E Y_X10_keeps k_X10_84 (ci := 12) rfl (c_X10_keeps (z_El E) e9) dX10_removeNet_27 e7 rfl rfl (by decide) (by decide) (zk (k := k) (a := 0) hk (by decide)) (zk (k := n) (a := 0) hn (by decide)) (Nat.zero_le _)) rfl rfl rfl ?_
    refine z_aload_n E 0 dX10_removeNet_30 rfl ?_
    obtain ⟨x10, e11, e⟩ := ob e
    refine z_getR E fl_X10_7 dX10_removeNet_31 e11 ?_
    refine z_iconst E dX10_removeNet_34 ic_1 ?_
    refine z_dup2 E dX10_removeNet_35 rfl rfl ?_
    obtain ⟨x12, e13, e⟩ := ob e
    refine z_iald E dX10_removeNet_36 e13 ?_
    refine z_iconst E dX10_removeNet_37 ic_1 ?_
    refine z_isub E dX10_removeNet_38 ?_
    obtain ⟨h14, e15, e⟩ := ob e
    refine z_iast E dX10_removeNet_39 e15 ?_
    refine z_bipush E dX10_removeNet_40 bp_84 ?_
    refine z_iconst E dX10_removeNet_42 ic_3 ?_
    refine z_iload_n E 1 dX10_removeNet_43 rfl ?_
    refine z_imul E dX10_removeNet_44 ?_
    refine z_iadd E dX10_removeNet_45 ?_
    refine z_istore_n (lv2 := [(2, .int ((84 : Int32) + ((3 : Int32) * v1))), (0, .ref v0), (1, .int v1)]) E dX10_removeNet_46 (by decide) rfl ?_
    obtain ⟨s16, e17, e⟩ := ob e
    refine z_sub [1, 0] rfl (b_X10_removeNet_L47 E T0 (zk (k := k) (a := 0) hk (by decide)) (zk (k := n) (a := 0) hn (by decide)) FV _ _ _ e17 ?_)
    refine z_iconst E dX10_removeNet_82 ic_0 ?_
    refine z_istore_n (lv2 := [(2, .int (0 : Int32)), (0, .ref v0)]) E dX10_removeNet_83 (by decide) rfl ?_
    obtain ⟨s18, e19, e⟩ := ob e
    refine z_sub [1, 0] rfl (b_X10_removeNet_L84 E T0 (zk (k := k) (a := 0) hk (by decide)) (zk (k := n) (a := 0) hn (by decide)) FV _ _ _ e19 ?_)
    refine z_aload_n E 0 dX10_removeNet_114 rfl ?_
    obtain ⟨x20, e21, e⟩ := ob e
    refine z_getR E fl_X10_7 dX10_removeNet_115 e21 ?_
    refine z_iconst E dX10_removeNet_118 ic_1 ?_
    obtain ⟨x22, e23, e⟩ := ob e
    refine z_iald E dX10_removeNet_119 e23 ?_
    obtain rfl := Option.some.inj e
    exact z_iret E M dX10_removeNet_120 rfl rfl rfl rfl (zk (k := k) (a := 0) hk (by decide)) (zk (k := n) (a := 0) hn (by decide))
  · refine z_if_eqF (tgt := 22) E dX10_removeNet_17 rfl (zb_nf c4) ?_
    refine z_iconst E dX10_removeNet_20 ic_0 ?_
    obtain rfl := Option.some.inj e
    exact z_iret E M dX10_removeNet_21 rfl rfl rfl rfl (zk (k := k) (a := 0) hk (by decide)) (zk (k := n) (a := 0) hn (by decide))
noncomputable def f_X10_removeNet (h : PH) (a0 : Nat) (a1 : Int32) : Option (Int32 × PH) :=
  (gd h a0 12).bind fun _ =>
  (f_X10_isNet h a0 a1).bind fun p2 =>
  if p2 = false then
    f_X10_removeNet_J14 h a0 a1 (1 : Int32) a0
  else
    f_X10_removeNet_J14 h a0 a1 (0 : Int32) a0
theorem b_X10_removeNet {X : PX} (E : z_E X cX10_removeNet RX10 "removeNet" 3 rmX10_removeNet (some .int)) (T0 : z_T0 X) {h : PH} {a0 : Nat} {a1 : Int32} {r : (Int32 × PH)} (e : f_X10_removeNet h a0 a1 = some r) (M : z_M X rmX10_removeNet.cells rmX10_removeNet.slots (.inr (some (.int r.1))) r.2) : WP X 3 0 0 0 [(0, .ref a0), (1, .int a1)] [] h := by
  unfold f_X10_removeNet at e
  refine z_aload_n E 0 dX10_removeNet_0 rfl ?_
  refine z_aload_n E 0 dX10_removeNet_1 rfl ?_
  refine z_iload_n E 1 dX10_removeNet_2 rfl ?_
  obtain ⟨_, e1, e⟩ := ob e
  obtain ⟨p2, e3, e⟩ := ob e
  refine z_kR2 (st := [.ref a0]) (av := [.ref a0, .int a1]) E 0 0 (z_rV (st := [.ref a0]) (av := [.int a1]) E Y_X10_isNet k_X10_148 (ci := 12) rfl (c_X10_isNet (z_El E) e3) dX10_removeNet_3 e1 rfl rfl (by decide) (by decide) (by decide) (by decide) (Nat.le_of_ble_eq_true rfl)) rfl rfl rfl ?_
  rcases oi e with ⟨c4, e⟩ | ⟨c4, e⟩
  · refine z_if_eqT (tgt := 13) E dX10_removeNet_6 rfl (zb_f c4) ?_
    refine z_iconst E dX10_removeNet_13 ic_1 ?_
    exact z_sub [0, 1] rfl (b_X10_removeNet_J14 E T0 (by decide) (by decide) e M)
  · refine z_if_eqF (tgt := 13) E dX10_removeNet_6 rfl (zb_nf c4) ?_
    refine z_iconst E dX10_removeNet_9 ic_0 ?_
    refine z_goto (tgt := 14) E dX10_removeNet_10 rfl ?_
    exact z_sub [0, 1] rfl (b_X10_removeNet_J14 E T0 (by decide) (by decide) e M)
theorem c_X10_removeNet {l : Launch} (hl : l.stackTraces = false) {h : PH} {a0 : Nat} {a1 : Int32} {r : (Int32 × PH)} (e : f_X10_removeNet h a0 a1 = some r) : CMet l yX10_removeNet (z_W yX10_removeNet cX10_removeNet 3 (some .int)) rmX10_removeNet h [.ref a0, .int a1] (.inr (some (.int r.1))) r.2 :=
  z_met hl Y_X10_removeNet (by decide +kernel) (Nat.le_of_ble_eq_true rfl) (fun X hX E T0 M => b_X10_removeNet E T0 e M)
abbrev rmX9_haul : Room := { frames := 8, cells := 12, slots := 117, locals := 146 }
noncomputable def f_X9_haul (h : PH) (a0 : Nat) (a1 : Int32) : Option ((String ⊕ Int32) × PH) :=
  (gd h a0 11).bind fun _ =>
  (f_X9_change h a0 (6 : Int32) a1 (0 : Int32) (0 : Int32)).bind fun p2 =>
  Sum.elim
    (fun E4 =>
    some ((Sum.inl E4), p2.2))
    (fun y6 =>
    some ((Sum.inr y6), p2.2)) p2.1
theorem b_X9_haul {X : PX} (E : z_E X cX9_haul RX9 "haul" 2 rmX9_haul (some .int)) (T0 : z_T0 X) {h : PH} {a0 : Nat} {a1 : Int32} {r : ((String ⊕ Int32) × PH)} (e : f_X9_haul h a0 a1 = some r) (M : z_M X rmX9_haul.cells rmX9_haul.slots (zoI r.1) r.2) : WP X 2 0 0 0 [(0, .ref a0), (1, .int a1)] [] h := by
  unfold f_X9_haul at e
  refine z_aload_n E 0 dX9_haul_0 rfl ?_
  refine z_bipush E dX9_haul_1 bp_6 ?_
  refine z_iload_n E 1 dX9_haul_3 rfl ?_
  refine z_iconst E dX9_haul_4 ic_0 ?_
  refine z_iconst E dX9_haul_5 ic_0 ?_
  obtain ⟨_, e1, e⟩ := ob e
  obtain ⟨p2, e3, e⟩ := ob e
  rcases os e with ⟨E4, c5, e⟩ | ⟨y6, c5, e⟩
  · obtain rfl := Option.some.inj e
    refine z_kX2 (st := []) (av := [.ref a0, .int (6 : Int32), .int a1, .int (0 : Int32), .int (0 : Int32)]) E 12 117 (z_rV (st := []) (av := [.int (6 : Int32), .int a1, .int (0 : Int32), .int (0 : Int32)]) E Y_X9_change k_X9_61 (ci := 11) rfl (zc_o (c_X9_change (z_El E) e3) (by rw [c5]; rfl)) dX9_haul_6 e1 rfl rfl (by decide) (by decide) (by decide) (by decide) (Nat.zero_le _)) rfl rfl rfl ?_
    exact z_outX E T0 M rfl rfl (by decide) (by decide)
  · refine z_kR2 (st := []) (av := [.ref a0, .int (6 : Int32), .int a1, .int (0 : Int32), .int (0 : Int32)]) E 12 117 (z_rV (st := []) (av := [.int (6 : Int32), .int a1, .int (0 : Int32), .int (0 : Int32)]) E Y_X9_change k_X9_61 (ci := 11) rfl (zc_o (c_X9_change (z_El E) e3) (by rw [c5]; rfl)) dX9_haul_6 e1 rfl rfl (by decide) (by decide) (by decide) (by decide) (Nat.zero_le _)) rfl rfl rfl ?_
    obtain rfl := Option.some.inj e
    exact z_iret E M dX9_haul_9 rfl rfl rfl rfl (by decide) (by decide)
theorem c_X9_haul {l : Launch} (hl : l.stackTraces = false) {h : PH} {a0 : Nat} {a1 : Int32} {r : ((String ⊕ Int32) × PH)} (e : f_X9_haul h a0 a1 = some r) : CMet l yX9_haul (z_W yX9_haul cX9_haul 2 (some .int)) rmX9_haul h [.ref a0, .int a1] (zoI r.1) r.2 :=
  z_met hl Y_X9_haul (by decide +kernel) (Nat.le_of_ble_eq_true rfl) (fun X hX E T0 M => b_X9_haul E T0 e M)
abbrev rmL_haul : Room := { frames := 9, cells := 12, slots := 117, locals := 167 }
noncomputable def f_L_haul (h : PH) (a0 : Nat) (a1 : Int32) (a2 : Nat) : Option (Int32 × PH) :=
  (gd h a0 11).bind fun _ =>
  (f_X9_haul h a0 a1).bind fun p2 =>
  Sum.elim
    (fun E4 =>
    if E4 = "java/lang/IndexOutOfBoundsException" then
      some ((1 : Int32), p2.2)
    else if E4 = "java/lang/UnsupportedOperationException" then
      some ((2 : Int32), p2.2)
    else none)
    (fun y6 =>
    (asL p2.2 a2 (0 : Int32) y6.toInt64).bind fun h9 =>
    some ((0 : Int32), h9)) p2.1
theorem b_L_haul {X : PX} (E : z_E X cL_haul RL "haul" 4 rmL_haul (some .int)) (TT : z_TT X [(0, 9, 12, 77), (0, 9, 15, 15)]) {h : PH} {a0 : Nat} {a1 : Int32} {a2 : Nat} {r : (Int32 × PH)} (e : f_L_haul h a0 a1 a2 = some r) (M : z_M X rmL_haul.cells rmL_haul.slots (.inr (some (.int r.1))) r.2) : WP X 4 0 0 0 [(0, .ref a0), (1, .int a1), (2, .ref a2)] [] h := by
  unfold f_L_haul at e
  refine z_aload_n E 2 dL_haul_0 rfl ?_
  refine z_iconst E dL_haul_1 ic_0 ?_
  refine z_aload_n E 0 dL_haul_2 rfl ?_
  refine z_iload_n E 1 dL_haul_3 rfl ?_
  obtain ⟨_, e1, e⟩ := ob e
  obtain ⟨p2, e3, e⟩ := ob e
  rcases os e with ⟨E4, c5, e⟩ | ⟨y6, c5, e⟩
  · rcases oi e with ⟨c7, e⟩ | ⟨c7, e⟩
    · subst c7
      refine z_kX2 (st := [.int (0 : Int32), .ref a2]) (av := [.ref a0, .int a1]) E 12 117 (z_rV (st := [.int (0 : Int32), .ref a2]) (av := [.int a1]) E Y_X9_haul k_L_79 (ci := 11) rfl (zc_o (c_X9_haul (z_El E) e3) (by rw [c5]; rfl)) dL_haul_4 e1 rfl rfl (by decide) (by decide) (by decide) (by decide) (Nat.le_of_ble_eq_true rfl)) rfl rfl rfl ?_
      refine z_catch (lv2 := [(0, .ref a0), (1, .int a1), (2, .ref a2)]) E TT 0 (q := (0, 9, 12, 77)) rfl rfl (by decide) cl_L_77 kb_IndexOutOfBoundsException (fun z hz => nomatch hz) (Or.inl ⟨_, dL_haul_12, rfl, rfl⟩) (by decide) rfl ?_
      refine z_iconst E dL_haul_13 ic_1 ?_
      obtain rfl := Option.some.inj e
      exact z_iret E M dL_haul_14 rfl rfl rfl rfl (by decide) (by decide)
    rcases oi e with ⟨c8, e⟩ | ⟨c8, e⟩
    · subst c8
      refine z_kX2 (st := [.int (0 : Int32), .ref a2]) (av := [.ref a0, .int a1]) E 12 117 (z_rV (st := [.int (0 : Int32), .ref a2]) (av := [.int a1]) E Y_X9_haul k_L_79 (ci := 11) rfl (zc_o (c_X9_haul (z_El E) e3) (by rw [c5]; rfl)) dL_haul_4 e1 rfl rfl (by decide) (by decide) (by decide) (by decide) (Nat.le_of_ble_eq_true rfl)) rfl rfl rfl ?_
      refine z_catch (lv2 := [(0, .ref a0), (1, .int a1), (2, .ref a2)]) E TT 1 (q := (0, 9, 15, 15)) rfl rfl (by decide) cl_L_15 kb_UnsupportedOperationException (List.forall_mem_cons.mpr ⟨⟨by decide, "java/lang/IndexOutOfBoundsException", cl_L_77, nc_UnsupportedOperationException_IndexOutOfBoundsException⟩, (fun z hz => nomatch hz)⟩) (Or.inl ⟨_, dL_haul_15, rfl, rfl⟩) (by decide) rfl ?_
      refine z_iconst E dL_haul_16 ic_2 ?_
      obtain rfl := Option.some.inj e
      exact z_iret E M dL_haul_17 rfl rfl rfl rfl (by decide) (by decide)
    cases e
  · refine z_kR2 (st := [.int (0 : Int32), .ref a2]) (av := [.ref a0, .int a1]) E 12 117 (z_rV (st := [.int (0 : Int32), .ref a2]) (av := [.int a1]) E Y_X9_haul k_L_79 (ci := 11) rfl (zc_o (c_X9_haul (z_El E) e3) (by rw [c5]; rfl)) dL_haul_4 e1 rfl rfl (by decide) (by decide) (by decide) (by decide) (Nat.le_of_ble_eq_true rfl)) rfl rfl rfl ?_
    refine z_i2l (v := y6.toInt64) E dL_haul_7 rfl ?_
    obtain ⟨h9, e10, e⟩ := ob e
    refine z_last E dL_haul_8 e10 ?_
    refine z_goto (tgt := 18) E dL_haul_9 rfl ?_
    refine z_iconst E dL_haul_18 ic_0 ?_
    obtain rfl := Option.some.inj e
    exact z_iret E M dL_haul_19 rfl rfl rfl rfl (by decide) (by decide)
theorem c_L_haul {l : Launch} (hl : l.stackTraces = false) {h : PH} {a0 : Nat} {a1 : Int32} {a2 : Nat} {r : (Int32 × PH)} (e : f_L_haul h a0 a1 a2 = some r) : CMet l yL_haul (z_WH yL_haul cL_haul 4 (some .int) [(0, 9, 12, 77), (0, 9, 15, 15)]) rmL_haul h [.ref a0, .int a1, .ref a2] (.inr (some (.int r.1))) r.2 :=
  z_metH hl Y_L_haul (by decide +kernel) (Nat.le_of_ble_eq_true rfl) (fun X hX E T0 M => b_L_haul E T0 e M)
abbrev rmX10_by : Room := { frames := 0, cells := 0, slots := 0, locals := 0 }
noncomputable def f_X10_by (h : PH) (a0 : Nat) (a1 : Int32) (a2 : Int32) : Option Int32 :=
  (rdR h a0 12 0).bind fun x1 =>
  (alI .int h x1 (((84 : Int32) + ((3 : Int32) * a1)) + a2)).bind fun x3 =>
  some x3
theorem b_X10_by {X : PX} (E : z_E X cX10_by RX10 "by" 3 rmX10_by (some .int)) (T0 : z_T0 X) {h : PH} {a0 : Nat} {a1 : Int32} {a2 : Int32} {r : Int32} (e : f_X10_by h a0 a1 a2 = some r) (M : z_M X rmX10_by.cells rmX10_by.slots (.inr (some (.int r))) h) : WP X 3 0 0 0 [(0, .ref a0), (1, .int a1), (2, .int a2)] [] h := by
  unfold f_X10_by at e
  refine z_aload_n E 0 dX10_by_0 rfl ?_
  obtain ⟨x1, e2, e⟩ := ob e
  refine z_getR E fl_X10_7 dX10_by_1 e2 ?_
  refine z_bipush E dX10_by_4 bp_84 ?_
  refine z_iconst E dX10_by_6 ic_3 ?_
  refine z_iload_n E 1 dX10_by_7 rfl ?_
  refine z_imul E dX10_by_8 ?_
  refine z_iadd E dX10_by_9 ?_
  refine z_iload_n E 2 dX10_by_10 rfl ?_
  refine z_iadd E dX10_by_11 ?_
  obtain ⟨x3, e4, e⟩ := ob e
  refine z_iald E dX10_by_12 e4 ?_
  obtain rfl := Option.some.inj e
  exact z_iret E M dX10_by_13 rfl rfl rfl rfl (by decide) (by decide)
theorem c_X10_by {l : Launch} (hl : l.stackTraces = false) {h : PH} {a0 : Nat} {a1 : Int32} {a2 : Int32} {r : Int32} (e : f_X10_by h a0 a1 a2 = some r) : CMet l yX10_by (z_W yX10_by cX10_by 3 (some .int)) rmX10_by h [.ref a0, .int a1, .int a2] (.inr (some (.int r))) h :=
  z_met hl Y_X10_by (by decide +kernel) (Nat.le_of_ble_eq_true rfl) (fun X hX E T0 M => b_X10_by E T0 e M)
abbrev rmX10_isCovered : Room := { frames := 1, cells := 0, slots := 0, locals := 22 }
noncomputable def f_X10_isCovered (h : PH) (a0 : Nat) (a1 : Int32) (a2 : Int32) : Option Bool :=
  (gd h a0 12).bind fun _ =>
  (f_X10_by h a0 a1 (0 : Int32)).bind fun p2 =>
  (gd h a0 12).bind fun _ =>
  (f_X10_by h a0 a1 (1 : Int32)).bind fun p5 =>
  if p5 ≤ (zrem ((a2 - p2) + (12 : Int32)) (12 : Int32)) then
    some false
  else
    some true
theorem b_X10_isCovered {X : PX} (E : z_E X cX10_isCovered RX10 "isCovered" 3 rmX10_isCovered (some .boolean)) (T0 : z_T0 X) {h : PH} {a0 : Nat} {a1 : Int32} {a2 : Int32} {r : Bool} (e : f_X10_isCovered h a0 a1 a2 = some r) (M : z_M X rmX10_isCovered.cells rmX10_isCovered.slots (.inr (some (.int (zb r)))) h) : WP X 3 0 0 0 [(0, .ref a0), (1, .int a1), (2, .int a2)] [] h := by
  unfold f_X10_isCovered at e
  refine z_iload_n E 2 dX10_isCovered_0 rfl ?_
  refine z_aload_n E 0 dX10_isCovered_1 rfl ?_
  refine z_iload_n E 1 dX10_isCovered_2 rfl ?_
  refine z_iconst E dX10_isCovered_3 ic_0 ?_
  obtain ⟨_, e1, e⟩ := ob e
  obtain ⟨p2, e3, e⟩ := ob e
  refine z_kR2 (st := [.int a2]) (av := [.ref a0, .int a1, .int (0 : Int32)]) E 0 0 (z_rV (st := [.int a2]) (av := [.int a1, .int (0 : Int32)]) E Y_X10_by k_X10_151 (ci := 12) rfl (c_X10_by (z_El E) e3) dX10_isCovered_4 e1 rfl rfl (by decide) (by decide) (by decide) (by decide) (Nat.le_of_ble_eq_true rfl)) rfl rfl rfl ?_
  refine z_isub E dX10_isCovered_7 ?_
  refine z_bipush E dX10_isCovered_8 bp_12 ?_
  refine z_iadd E dX10_isCovered_10 ?_
  refine z_bipush E dX10_isCovered_11 bp_12 ?_
  refine z_irem E dX10_isCovered_13 (by decide) ?_
  refine z_aload_n E 0 dX10_isCovered_14 rfl ?_
  refine z_iload_n E 1 dX10_isCovered_15 rfl ?_
  refine z_iconst E dX10_isCovered_16 ic_1 ?_
  obtain ⟨_, e4, e⟩ := ob e
  obtain ⟨p5, e6, e⟩ := ob e
  refine z_kR2 (st := [.int (zrem ((a2 - p2) + (12 : Int32)) (12 : Int32))]) (av := [.ref a0, .int a1, .int (1 : Int32)]) E 0 0 (z_rV (st := [.int (zrem ((a2 - p2) + (12 : Int32)) (12 : Int32))]) (av := [.int a1, .int (1 : Int32)]) E Y_X10_by k_X10_151 (ci := 12) rfl (c_X10_by (z_El E) e6) dX10_isCovered_17 e4 rfl rfl (by decide) (by decide) (by decide) (by decide) (Nat.le_of_ble_eq_true rfl)) rfl rfl rfl ?_
  rcases oi e with ⟨c7, e⟩ | ⟨c7, e⟩
  · refine z_icmp_geT (tgt := 27) E dX10_isCovered_20 rfl c7 ?_
    refine z_iconst E dX10_isCovered_27 ic_0 ?_
    obtain rfl := Option.some.inj e
    exact z_iret E M dX10_isCovered_28 rfl rfl rfl rfl (by decide) (by decide)
  · refine z_icmp_geF (tgt := 27) E dX10_isCovered_20 rfl c7 ?_
    refine z_iconst E dX10_isCovered_23 ic_1 ?_
    refine z_goto (tgt := 28) E dX10_isCovered_24 rfl ?_
    obtain rfl := Option.some.inj e
    exact z_iret E M dX10_isCovered_28 rfl rfl rfl rfl (by decide) (by decide)
theorem c_X10_isCovered {l : Launch} (hl : l.stackTraces = false) {h : PH} {a0 : Nat} {a1 : Int32} {a2 : Int32} {r : Bool} (e : f_X10_isCovered h a0 a1 a2 = some r) : CMet l yX10_isCovered (z_W yX10_isCovered cX10_isCovered 3 (some .boolean)) rmX10_isCovered h [.ref a0, .int a1, .int a2] (.inr (some (.int (zb r)))) h :=
  z_met hl Y_X10_isCovered (by decide +kernel) (Nat.le_of_ble_eq_true rfl) (fun X hX E T0 M => b_X10_isCovered E T0 e M)
