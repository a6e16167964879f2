abbrev rmX9_execute : Room := { frames := 14, cells := 12, slots := 117, locals := 271 }
noncomputable def f_X9_execute_L42 : Nat → PH → Nat → Int32 → Option (((String ⊕ Int32) × PH) ⊕ PH)
  | 0, _, _, _ => none
  | fu + 1, h, v0, v2 =>
    (rdR h v0 11 5).bind fun x1 =>
    (rdI h x1 10 3).bind fun x3 =>
    if x3 ≤ v2 then
      some (Sum.inr h)
    else
      (gd h v0 11).bind fun _ =>
      (f_X9_runCommand h v0 v2).bind fun p7 =>
      if p7.1 = 0 then
        f_X9_execute_L42 fu p7.2 v0 (v2 + (1 : Int32))
      else
        (rdR p7.2 v0 11 0).bind fun x10 =>
        (rdR p7.2 v0 11 1).bind fun x12 =>
        (gd p7.2 x10 9).bind fun _ =>
        (f_X7_copyFrom p7.2 x10 x12).bind fun p15 =>
        (rdR p15 v0 11 6).bind fun x17 =>
        if p7.1 ≤ 0 then
          (gd p15 x17 5).bind fun _ =>
          (f_X2_keep p15 x17 (9 : Int32) v2 (10 : Int32)).bind fun p21 =>
          some (Sum.inl ((Sum.inl "java/lang/UnsupportedOperationException"), p21))
        else
          (gd p15 x17 5).bind fun _ =>
          (f_X2_keep p15 x17 (9 : Int32) v2 p7.1).bind fun p24 =>
          some (Sum.inl ((Sum.inl "java/lang/UnsupportedOperationException"), p24))
theorem b_X9_execute_L42 {X : PX} (E : z_E X cX9_execute RX9 "execute" 4 rmX9_execute (some .int)) (T0 : z_T0 X) {k n : Nat} (hk : k + 1 ≤ rmX9_execute.cells) (hn : n + 6 ≤ rmX9_execute.slots) {s : (((String ⊕ Int32) × PH) ⊕ PH)} : ∀ (fu : Nat) (h : PH) (v0 : Nat) (v2 : Int32) (e : f_X9_execute_L42 fu h v0 v2 = some s) (M : ∀ q, s = Sum.inl q → z_M X rmX9_execute.cells rmX9_execute.slots (zoI q.1) q.2) (kk : ∀ t, s = Sum.inr t → WP X 4 k n 110 [(0, .ref v0)] [] t), WP X 4 k n 42 [(0, .ref v0), (2, .int v2)] [] h := by
  intro fu
  induction fu with
  | zero => intro h v0 v2 e; exact absurd (show (none : Option (((String ⊕ Int32) × PH) ⊕ PH)) = some s from e) (by intro z; cases z)
  | succ fu ih =>
    intro h v0 v2 e M kk
    unfold f_X9_execute_L42 at e
    refine z_iload_n E 1 dX9_execute_42 rfl ?_
    refine z_aload_n E 0 dX9_execute_43 rfl ?_
    obtain ⟨x1, e2, e⟩ := ob e
    refine z_getR E fl_X9_43 dX9_execute_44 e2 ?_
    obtain ⟨x3, e4, e⟩ := ob e
    refine z_getI E fl_X9_241 dX9_execute_47 e4 ?_
    rcases oi e with ⟨c5, e⟩ | ⟨c5, e⟩
    · refine z_icmp_geT (tgt := 110) E dX9_execute_50 rfl c5 ?_
      obtain rfl := Option.some.inj e
      exact z_sub [0] rfl (kk _ rfl)
    · refine z_icmp_geF (tgt := 110) E dX9_execute_50 rfl c5 ?_
      refine z_aload_n E 0 dX9_execute_53 rfl ?_
      refine z_iload_n E 1 dX9_execute_54 rfl ?_
      obtain ⟨_, e6, e⟩ := ob e
      obtain ⟨p7, e8, e⟩ := ob e
      refine z_kR2 (st := []) (av := [.ref v0, .int v2]) E k n (z_rV (st := []) (av := [.int v2]) E Y_X9_runCommand k_X9_244 (ci := 11) rfl (c_X9_runCommand (z_El E) e8) dX9_execute_55 e6 rfl rfl (by decide) (by decide) (zk (k := k) (a := 0) hk (by decide)) (zk (k := n) (a := 0) hn (by decide)) (Nat.zero_le _)) rfl rfl rfl ?_
      refine z_istore_n (lv2 := [(3, .int p7.1), (0, .ref v0), (2, .int v2)]) E dX9_execute_58 (by decide) rfl ?_
      refine z_iload_n E 0 dX9_execute_59 rfl ?_
      rcases oi e with ⟨c9, e⟩ | ⟨c9, e⟩
      · refine z_if_eqT (tgt := 104) E dX9_execute_60 rfl c9 ?_
        refine z_iinc (v := (v2 + (1 : Int32))) (lv2 := [(2, .int (v2 + (1 : Int32))), (3, .int p7.1), (0, .ref v0)]) E 2 dX9_execute_104 rfl (congrArg (v2 + ·) ic_1) (by decide) rfl ?_
        refine z_goto (tgt := 42) E dX9_execute_107 rfl ?_
        exact z_sub [2, 0] rfl (ih _ _ _ e M kk)
      · refine z_if_eqF (tgt := 104) E dX9_execute_60 rfl c9 ?_
        refine z_aload_n E 1 dX9_execute_63 rfl ?_
        obtain ⟨x10, e11, e⟩ := ob e
        refine z_getR E fl_X9_12 dX9_execute_64 e11 ?_
        refine z_aload_n E 1 dX9_execute_67 rfl ?_
        obtain ⟨x12, e13, e⟩ := ob e
        refine z_getR E fl_X9_16 dX9_execute_68 e13 ?_
        obtain ⟨_, e14, e⟩ := ob e
        obtain ⟨p15, e16, e⟩ := ob e
        refine z_kV2 (st := []) (av := [.ref x10, .ref x12]) E k n (z_rV (st := []) (av := [.ref x12]) E Y_X7_copyFrom k_X9_237 (ci := 9) rfl (c_X7_copyFrom (z_El E) e16) dX9_execute_71 e14 rfl rfl (by decide) (by decide) (zk (k := k) (a := 0) hk (by decide)) (zk (k := n) (a := 0) hn (by decide)) (Nat.zero_le _)) rfl rfl rfl ?_
        refine z_aload_n E 1 dX9_execute_74 rfl ?_
        obtain ⟨x17, e18, e⟩ := ob e
        refine z_getR E fl_X9_50 dX9_execute_75 e18 ?_
        refine z_bipush E dX9_execute_78 bp_9 ?_
        refine z_iload_n E 2 dX9_execute_80 rfl ?_
        refine z_iload_n E 0 dX9_execute_81 rfl ?_
        rcases oi e with ⟨c19, e⟩ | ⟨c19, e⟩
        · refine z_if_leT (tgt := 89) E dX9_execute_82 rfl c19 ?_
          refine z_bipush E dX9_execute_89 bp_10 ?_
          obtain ⟨_, e20, e⟩ := ob e
          obtain ⟨p21, e22, e⟩ := ob e
          refine z_kV2 (st := []) (av := [.ref x17, .int (9 : Int32), .int v2, .int (10 : Int32)]) E k n (z_rV (st := []) (av := [.int (9 : Int32), .int v2, .int (10 : Int32)]) E Y_X2_keep k_X9_247 (ci := 5) rfl (c_X2_keep (z_El E) e22) dX9_execute_91 e20 rfl rfl (by decide) (by decide) (zk (k := k) (a := 0) hk (by decide)) (zk (k := n) (a := 0) hn (by decide)) (Nat.zero_le _)) rfl rfl rfl ?_
          have M := M _ (Option.some.inj e).symm
          exact z_throw E 6 th_X9_251_253_255 T0 M dX9_execute_94 dX9_execute_97 (Or.inl ⟨dX9_execute_98, rfl⟩) dX9_execute_100 dX9_execute_103 rfl rfl (by decide) (Nat.le_of_ble_eq_true rfl) (zk (k := k) (a := 1) hk (by decide)) (zk (k := n) (a := 6) hn (by decide)) (zk (k := k) (a := 1) hk (by decide)) (zk (k := n) (a := 6) hn (by decide))
        · refine z_if_leF (tgt := 89) E dX9_execute_82 rfl c19 ?_
          refine z_iload_n E 0 dX9_execute_85 rfl ?_
          refine z_goto (tgt := 91) E dX9_execute_86 rfl ?_
          obtain ⟨_, e23, e⟩ := ob e
          obtain ⟨p24, e25, e⟩ := ob e
          refine z_kV2 (st := []) (av := [.ref x17, .int (9 : Int32), .int v2, .int p7.1]) E k n (z_rV (st := []) (av := [.int (9 : Int32), .int v2, .int p7.1]) E Y_X2_keep k_X9_247 (ci := 5) rfl (c_X2_keep (z_El E) e25) dX9_execute_91 e23 rfl rfl (by decide) (by decide) (zk (k := k) (a := 0) hk (by decide)) (zk (k := n) (a := 0) hn (by decide)) (Nat.zero_le _)) rfl rfl rfl ?_
          have M := M _ (Option.some.inj e).symm
          exact z_throw E 6 th_X9_251_253_255 T0 M dX9_execute_94 dX9_execute_97 (Or.inl ⟨dX9_execute_98, rfl⟩) dX9_execute_100 dX9_execute_103 rfl rfl (by decide) (Nat.le_of_ble_eq_true rfl) (zk (k := k) (a := 1) hk (by decide)) (zk (k := n) (a := 6) hn (by decide)) (zk (k := k) (a := 1) hk (by decide)) (zk (k := n) (a := 6) hn (by decide))
noncomputable def f_X9_execute (h : PH) (a0 : Nat) : Option ((String ⊕ Int32) × PH) :=
  (rdR h a0 11 5).bind fun x1 =>
  (gd h x1 10).bind fun _ =>
  (f_X8_parse h x1).bind fun p4 =>
  (rdR p4.2 a0 11 5).bind fun x6 =>
  (gd p4.2 x6 10).bind fun _ =>
  (f_X8_empty p4.2 x6).bind fun p9 =>
  if p4.1 = true then
    (rdR p9 a0 11 1).bind fun x12 =>
    (rdR p9 a0 11 0).bind fun x14 =>
    (gd p9 x12 9).bind fun _ =>
    (f_X7_copyFrom p9 x12 x14).bind fun p17 =>
    (f_X9_execute_L42 FV p17 a0 (0 : Int32)).bind fun s19 =>
    Sum.elim (fun q21 => some q21) (fun t22 =>
      (rdR t22 a0 11 2).bind fun x24 =>
      (rdR t22 a0 11 1).bind fun x26 =>
      (gd t22 x24 7).bind fun _ =>
      (f_X4_remember t22 x24 x26).bind fun p29 =>
      (rdR p29 a0 11 5).bind fun x31 =>
      (rdI p29 x31 10 3).bind fun x33 =>
      some ((Sum.inr x33), p29)) s19
  else
    some ((Sum.inl "java/lang/IllegalArgumentException"), p9)
theorem b_X9_execute {X : PX} (E : z_E X cX9_execute RX9 "execute" 4 rmX9_execute (some .int)) (T0 : z_T0 X) {h : PH} {a0 : Nat} {r : ((String ⊕ Int32) × PH)} (e : f_X9_execute h a0 = some r) (M : z_M X rmX9_execute.cells rmX9_execute.slots (zoI r.1) r.2) : WP X 4 0 0 0 [(0, .ref a0)] [] h := by
  unfold f_X9_execute at e
  refine z_aload_n E 0 dX9_execute_0 rfl ?_
  obtain ⟨x1, e2, e⟩ := ob e
  refine z_getR E fl_X9_43 dX9_execute_1 e2 ?_
  obtain ⟨_, e3, e⟩ := ob e
  obtain ⟨p4, e5, e⟩ := ob e
  refine z_kR2 (st := []) (av := [.ref x1]) E 0 0 (z_rV (st := []) (av := []) E Y_X8_parse k_X9_226 (ci := 10) rfl (c_X8_parse (z_El E) e5) dX9_execute_4 e3 rfl rfl (by decide) (by decide) (by decide) (by decide) (Nat.zero_le _)) rfl rfl rfl ?_
  refine z_istore_n (lv2 := [(1, .int (zb p4.1)), (0, .ref a0)]) E dX9_execute_7 (by decide) rfl ?_
  refine z_aload_n E 1 dX9_execute_8 rfl ?_
  obtain ⟨x6, e7, e⟩ := ob e
  refine z_getR E fl_X9_43 dX9_execute_9 e7 ?_
  obtain ⟨_, e8, e⟩ := ob e
  obtain ⟨p9, e10, e⟩ := ob e
  refine z_kV2 (st := []) (av := [.ref x6]) E 0 0 (z_rV (st := []) (av := []) E Y_X8_empty k_X9_229 (ci := 10) rfl (c_X8_empty (z_El E) e10) dX9_execute_12 e8 rfl rfl (by decide) (by decide) (by decide) (by decide) (Nat.zero_le _)) rfl rfl rfl ?_
  refine z_iload_n E 0 dX9_execute_15 rfl ?_
  rcases oi e with ⟨c11, e⟩ | ⟨c11, e⟩
  · refine z_if_neT (tgt := 29) E dX9_execute_16 rfl (zb_t c11) ?_
    refine z_aload_n E 1 dX9_execute_29 rfl ?_
    obtain ⟨x12, e13, e⟩ := ob e
    refine z_getR E fl_X9_16 dX9_execute_30 e13 ?_
    refine z_aload_n E 1 dX9_execute_33 rfl ?_
    obtain ⟨x14, e15, e⟩ := ob e
    refine z_getR E fl_X9_12 dX9_execute_34 e15 ?_
    obtain ⟨_, e16, e⟩ := ob e
    obtain ⟨p17, e18, e⟩ := ob e
    refine z_kV2 (st := []) (av := [.ref x12, .ref x14]) E 0 0 (z_rV (st := []) (av := [.ref x14]) E Y_X7_copyFrom k_X9_237 (ci := 9) rfl (c_X7_copyFrom (z_El E) e18) dX9_execute_37 e16 rfl rfl (by decide) (by decide) (by decide) (by decide) (Nat.zero_le _)) rfl rfl rfl ?_
    refine z_iconst E dX9_execute_40 ic_0 ?_
    refine z_istore_n (lv2 := [(2, .int (0 : Int32)), (1, .int (zb p4.1)), (0, .ref a0)]) E dX9_execute_41 (by decide) rfl ?_
    obtain ⟨s19, e20, e⟩ := ob e
    refine z_sub [2, 0] rfl (b_X9_execute_L42 E T0 (by decide) (by decide) FV _ _ _ e20 (fun q21 c23 => ?_) (fun t22 c23 => ?_))
    · have e := os_l e c23
      obtain rfl := Option.some.inj e
      exact M
    · have e := os_r e c23
      refine z_aload_n E 0 dX9_execute_110 rfl ?_
      obtain ⟨x24, e25, e⟩ := ob e
      refine z_getR E fl_X9_22 dX9_execute_111 e25 ?_
      refine z_aload_n E 0 dX9_execute_114 rfl ?_
      obtain ⟨x26, e27, e⟩ := ob e
      refine z_getR E fl_X9_16 dX9_execute_115 e27 ?_
      obtain ⟨_, e28, e⟩ := ob e
      obtain ⟨p29, e30, e⟩ := ob e
      refine z_kV2 (st := []) (av := [.ref x24, .ref x26]) E 11 111 (z_rV (st := []) (av := [.ref x26]) E Y_X4_remember k_X9_256 (ci := 7) rfl (c_X4_remember (z_El E) e30) dX9_execute_118 e28 rfl rfl (by decide) (by decide) (by decide) (by decide) (Nat.zero_le _)) rfl rfl rfl ?_
      refine z_aload_n E 0 dX9_execute_121 rfl ?_
      obtain ⟨x31, e32, e⟩ := ob e
      refine z_getR E fl_X9_43 dX9_execute_122 e32 ?_
      obtain ⟨x33, e34, e⟩ := ob e
      refine z_getI E fl_X9_241 dX9_execute_125 e34 ?_
      obtain rfl := Option.some.inj e
      exact z_iret E M dX9_execute_128 rfl rfl rfl rfl (by decide) (by decide)
  · refine z_if_neF (tgt := 29) E dX9_execute_16 rfl (zb_nt c11) ?_
    obtain rfl := Option.some.inj e
    exact z_throw E 6 th_X9_232_234_236 T0 M dX9_execute_19 dX9_execute_22 (Or.inl ⟨dX9_execute_23, rfl⟩) dX9_execute_25 dX9_execute_28 rfl rfl (by decide) (Nat.le_of_ble_eq_true rfl) (by decide) (by decide) (by decide) (by decide)
theorem c_X9_execute {l : Launch} (hl : l.stackTraces = false) {h : PH} {a0 : Nat} {r : ((String ⊕ Int32) × PH)} (e : f_X9_execute h a0 = some r) : CMet l yX9_execute (z_W yX9_execute cX9_execute 4 (some .int)) rmX9_execute h [.ref a0] (zoI r.1) r.2 :=
  z_met hl Y_X9_execute (by decide +kernel) (Nat.le_of_ble_eq_true rfl) (fun X hX E T0 M => b_X9_execute E T0 e M)
abbrev rmL_execute : Room := { frames := 15, cells := 12, slots := 117, locals := 294 }
noncomputable def f_L_execute (h : PH) (a0 : Nat) (a1 : Nat) : Option (Int32 × PH) :=
  (gd h a0 11).bind fun _ =>
  (f_X9_execute h a0).bind fun p2 =>
  Sum.elim
    (fun E4 =>
    if E4 = "java/lang/IllegalArgumentException" then
      some ((1 : Int32), p2.2)
    else if E4 = "java/lang/UnsupportedOperationException" then
      some ((2 : Int32), p2.2)
    else none)
    (fun y6 =>
    (asL p2.2 a1 (0 : Int32) y6.toInt64).bind fun h9 =>
    some ((0 : Int32), h9)) p2.1
theorem b_L_execute {X : PX} (E : z_E X cL_execute RL "execute" 3 rmL_execute (some .int)) (TT : z_TT X [(0, 8, 11, 13), (0, 8, 14, 15)]) {h : PH} {a0 : Nat} {a1 : Nat} {r : (Int32 × PH)} (e : f_L_execute h a0 a1 = some r) (M : z_M X rmL_execute.cells rmL_execute.slots (.inr (some (.int r.1))) r.2) : WP X 3 0 0 0 [(0, .ref a0), (1, .ref a1)] [] h := by
  unfold f_L_execute at e
  refine z_aload_n E 1 dL_execute_0 rfl ?_
  refine z_iconst E dL_execute_1 ic_0 ?_
  refine z_aload_n E 0 dL_execute_2 rfl ?_
  obtain ⟨_, e1, e⟩ := ob e
  obtain ⟨p2, e3, e⟩ := ob e
  rcases os e with ⟨E4, c5, e⟩ | ⟨y6, c5, e⟩
  · rcases oi e with ⟨c7, e⟩ | ⟨c7, e⟩
    · subst c7
      refine z_kX2 (st := [.int (0 : Int32), .ref a1]) (av := [.ref a0]) E 12 117 (z_rV (st := [.int (0 : Int32), .ref a1]) (av := []) E Y_X9_execute k_L_124 (ci := 11) rfl (zc_o (c_X9_execute (z_El E) e3) (by rw [c5]; rfl)) dL_execute_3 e1 rfl rfl (by decide) (by decide) (by decide) (by decide) (Nat.le_of_ble_eq_true rfl)) rfl rfl rfl ?_
      refine z_catch (lv2 := [(0, .ref a0), (1, .ref a1)]) E TT 0 (q := (0, 8, 11, 13)) rfl rfl (by decide) cl_L_13 kb_IllegalArgumentException (fun z hz => nomatch hz) (Or.inl ⟨_, dL_execute_11, rfl, rfl⟩) (by decide) rfl ?_
      refine z_iconst E dL_execute_12 ic_1 ?_
      obtain rfl := Option.some.inj e
      exact z_iret E M dL_execute_13 rfl rfl rfl rfl (by decide) (by decide)
    rcases oi e with ⟨c8, e⟩ | ⟨c8, e⟩
    · subst c8
      refine z_kX2 (st := [.int (0 : Int32), .ref a1]) (av := [.ref a0]) E 12 117 (z_rV (st := [.int (0 : Int32), .ref a1]) (av := []) E Y_X9_execute k_L_124 (ci := 11) rfl (zc_o (c_X9_execute (z_El E) e3) (by rw [c5]; rfl)) dL_execute_3 e1 rfl rfl (by decide) (by decide) (by decide) (by decide) (Nat.le_of_ble_eq_true rfl)) rfl rfl rfl ?_
      refine z_catch (lv2 := [(0, .ref a0), (1, .ref a1)]) E TT 1 (q := (0, 8, 14, 15)) rfl rfl (by decide) cl_L_15 kb_UnsupportedOperationException (List.forall_mem_cons.mpr ⟨⟨by decide, "java/lang/IllegalArgumentException", cl_L_13, nc_UnsupportedOperationException_IllegalArgumentException⟩, (fun z hz => nomatch hz)⟩) (Or.inl ⟨_, dL_execute_14, rfl, rfl⟩) (by decide) rfl ?_
      refine z_iconst E dL_execute_15 ic_2 ?_
      obtain rfl := Option.some.inj e
      exact z_iret E M dL_execute_16 rfl rfl rfl rfl (by decide) (by decide)
    cases e
  · refine z_kR2 (st := [.int (0 : Int32), .ref a1]) (av := [.ref a0]) E 12 117 (z_rV (st := [.int (0 : Int32), .ref a1]) (av := []) E Y_X9_execute k_L_124 (ci := 11) rfl (zc_o (c_X9_execute (z_El E) e3) (by rw [c5]; rfl)) dL_execute_3 e1 rfl rfl (by decide) (by decide) (by decide) (by decide) (Nat.le_of_ble_eq_true rfl)) rfl rfl rfl ?_
    refine z_i2l (v := y6.toInt64) E dL_execute_6 rfl ?_
    obtain ⟨h9, e10, e⟩ := ob e
    refine z_last E dL_execute_7 e10 ?_
    refine z_goto (tgt := 17) E dL_execute_8 rfl ?_
    refine z_iconst E dL_execute_17 ic_0 ?_
    obtain rfl := Option.some.inj e
    exact z_iret E M dL_execute_18 rfl rfl rfl rfl (by decide) (by decide)
theorem c_L_execute {l : Launch} (hl : l.stackTraces = false) {h : PH} {a0 : Nat} {a1 : Nat} {r : (Int32 × PH)} (e : f_L_execute h a0 a1 = some r) : CMet l yL_execute (z_WH yL_execute cL_execute 3 (some .int) [(0, 8, 11, 13), (0, 8, 14, 15)]) rmL_execute h [.ref a0, .ref a1] (.inr (some (.int r.1))) r.2 :=
  z_metH hl Y_L_execute (by decide +kernel) (Nat.le_of_ble_eq_true rfl) (fun X hX E T0 M => b_L_execute E T0 e M)
abbrev rmX10_here : Room := { frames := 0, cells := 0, slots := 0, locals := 0 }
noncomputable def f_X10_here (h : PH) (a0 : Nat) : Option Int32 :=
  (rdI h a0 12 17).bind fun x1 =>
  (rdI h a0 12 13).bind fun x3 =>
  if x3 ≤ x1 then
    some (-1 : Int32)
  else
    (rdR h a0 12 12).bind fun x6 =>
    (rdI h a0 12 17).bind fun x8 =>
    (alI .int h x6 x8).bind fun x10 =>
    some x10
theorem b_X10_here {X : PX} (E : z_E X cX10_here RX10 "here" 1 rmX10_here (some .int)) (T0 : z_T0 X) {h : PH} {a0 : Nat} {r : Int32} (e : f_X10_here h a0 = some r) (M : z_M X rmX10_here.cells rmX10_here.slots (.inr (some (.int r))) h) : WP X 1 0 0 0 [(0, .ref a0)] [] h := by
  unfold f_X10_here at e
  refine z_aload_n E 0 dX10_here_0 rfl ?_
  obtain ⟨x1, e2, e⟩ := ob e
  refine z_getI E fl_X10_178 dX10_here_1 e2 ?_
  refine z_aload_n E 0 dX10_here_4 rfl ?_
  obtain ⟨x3, e4, e⟩ := ob e
  refine z_getI E fl_X10_175 dX10_here_5 e4 ?_
  rcases oi e with ⟨c5, e⟩ | ⟨c5, e⟩
  · refine z_icmp_geT (tgt := 23) E dX10_here_8 rfl c5 ?_
    refine z_iconst E dX10_here_23 ic_m1 ?_
    obtain rfl := Option.some.inj e
    exact z_iret E M dX10_here_24 rfl rfl rfl rfl (by decide) (by decide)
  · refine z_icmp_geF (tgt := 23) E dX10_here_8 rfl c5 ?_
    refine z_aload_n E 0 dX10_here_11 rfl ?_
    obtain ⟨x6, e7, e⟩ := ob e
    refine z_getR E fl_X10_22 dX10_here_12 e7 ?_
    refine z_aload_n E 0 dX10_here_15 rfl ?_
    obtain ⟨x8, e9, e⟩ := ob e
    refine z_getI E fl_X10_178 dX10_here_16 e9 ?_
    obtain ⟨x10, e11, e⟩ := ob e
    refine z_iald E dX10_here_19 e11 ?_
    refine z_goto (tgt := 24) E dX10_here_20 rfl ?_
    obtain rfl := Option.some.inj e
    exact z_iret E M dX10_here_24 rfl rfl rfl rfl (by decide) (by decide)
theorem c_X10_here {l : Launch} (hl : l.stackTraces = false) {h : PH} {a0 : Nat} {r : Int32} (e : f_X10_here h a0 = some r) : CMet l yX10_here (z_W yX10_here cX10_here 1 (some .int)) rmX10_here h [.ref a0] (.inr (some (.int r))) h :=
  z_met hl Y_X10_here (by decide +kernel) (Nat.le_of_ble_eq_true rfl) (fun X hX E T0 M => b_X10_here E T0 e M)
abbrev rmX10_skips : Room := { frames := 1, cells := 0, slots := 0, locals := 20 }
noncomputable def f_X10_skips (h : PH) (a0 : Nat) (a1 : Int32) : Option (Bool × PH) :=
  (gd h a0 12).bind fun _ =>
  (f_X10_here h a0).bind fun p2 =>
  if p2 = a1 then
    (rdI h a0 12 17).bind fun x5 =>
    (wr h a0 12 17 (.int (x5 + (1 : Int32)))).bind fun h7 =>
    some (true, h7)
  else
    some (false, h)
theorem b_X10_skips {X : PX} (E : z_E X cX10_skips RX10 "skips" 2 rmX10_skips (some .boolean)) (T0 : z_T0 X) {h : PH} {a0 : Nat} {a1 : Int32} {r : (Bool × PH)} (e : f_X10_skips h a0 a1 = some r) (M : z_M X rmX10_skips.cells rmX10_skips.slots (.inr (some (.int (zb r.1)))) r.2) : WP X 2 0 0 0 [(0, .ref a0), (1, .int a1)] [] h := by
  unfold f_X10_skips at e
  refine z_aload_n E 0 dX10_skips_0 rfl ?_
  obtain ⟨_, e1, e⟩ := ob e
  obtain ⟨p2, e3, e⟩ := ob e
  refine z_kR2 (st := []) (av := [.ref a0]) E 0 0 (z_rV (st := []) (av := []) E Y_X10_here k_X10_181 (ci := 12) rfl (c_X10_here (z_El E) e3) dX10_skips_1 e1 rfl rfl (by decide) (by decide) (by decide) (by decide) (Nat.zero_le _)) rfl rfl rfl ?_
  refine z_iload_n E 1 dX10_skips_4 rfl ?_
  rcases oi e with ⟨c4, e⟩ | ⟨c4, e⟩
  · refine z_icmp_eqT (tgt := 10) E dX10_skips_5 rfl c4 ?_
    refine z_aload_n E 0 dX10_skips_10 rfl ?_
    refine z_dup E dX10_skips_11 rfl ?_
    obtain ⟨x5, e6, e⟩ := ob e
    refine z_getI E fl_X10_178 dX10_skips_12 e6 ?_
    refine z_iconst E dX10_skips_15 ic_1 ?_
    refine z_iadd E dX10_skips_16 ?_
    obtain ⟨h7, e8, e⟩ := ob e
    refine z_putI E fp_X10_178 (Or.inl rfl) dX10_skips_17 e8 ?_
    refine z_iconst E dX10_skips_20 ic_1 ?_
    obtain rfl := Option.some.inj e
    exact z_iret E M dX10_skips_21 rfl rfl rfl rfl (by decide) (by decide)
  · refine z_icmp_eqF (tgt := 10) E dX10_skips_5 rfl c4 ?_
    refine z_iconst E dX10_skips_8 ic_0 ?_
    obtain rfl := Option.some.inj e
    exact z_iret E M dX10_skips_9 rfl rfl rfl rfl (by decide) (by decide)
theorem c_X10_skips {l : Launch} (hl : l.stackTraces = false) {h : PH} {a0 : Nat} {a1 : Int32} {r : (Bool × PH)} (e : f_X10_skips h a0 a1 = some r) : CMet l yX10_skips (z_W yX10_skips cX10_skips 2 (some .boolean)) rmX10_skips h [.ref a0, .int a1] (.inr (some (.int (zb r.1)))) r.2 :=
  z_met hl Y_X10_skips (by decide +kernel) (Nat.le_of_ble_eq_true rfl) (fun X hX E T0 M => b_X10_skips E T0 e M)
abbrev rmX10_isWord : Room := { frames := 11, cells := 0, slots := 0, locals := 203 }
noncomputable def f_X10_isWord_L14 : Nat → PH → Nat → Nat → Int32 → Option ((Bool × PH) ⊕ PH)
  | 0, _, _, _, _ => none
  | fu + 1, h, v0, v2, v3 =>
    (gd h v2 0).bind fun _ =>
    (f_J0_length_8abf5 h v2).bind fun p2 =>
    if p2 ≤ v3 then
      some (Sum.inr h)
    else
      (gd h v2 0).bind fun _ =>
      (f_J0_charAt_5068e h v2 v3).bind fun p6 =>
      (gd h v0 12).bind fun _ =>
      (f_X10_skips h v0 p6).bind fun p9 =>
      if p9.1 = true then
        f_X10_isWord_L14 fu p9.2 v0 v2 (v3 + (1 : Int32))
      else
        some (Sum.inl (false, p9.2))
theorem b_X10_isWord_L14 {X : PX} (E : z_E X cX10_isWord RX10 "isWord" 4 rmX10_isWord (some .boolean)) (T0 : z_T0 X) {k n : Nat} (hk : k + 0 ≤ rmX10_isWord.cells) (hn : n + 0 ≤ rmX10_isWord.slots) {s : ((Bool × PH) ⊕ PH)} : ∀ (fu : Nat) (h : PH) (v0 : Nat) (v2 : Nat) (v3 : Int32) (e : f_X10_isWord_L14 fu h v0 v2 v3 = some s) (M : ∀ q, s = Sum.inl q → z_M X rmX10_isWord.cells rmX10_isWord.slots (.inr (some (.int (zb q.1)))) q.2) (kk : ∀ t, s = Sum.inr t → WP X 4 k n 42 [] [] t), WP X 4 k n 14 [(0, .ref v0), (2, .ref v2), (3, .int v3)] [] h := by
  intro fu
  induction fu with
  | zero => intro h v0 v2 v3 e; exact absurd (show (none : Option ((Bool × PH) ⊕ PH)) = some s from e) (by intro z; cases z)
  | succ fu ih =>
    intro h v0 v2 v3 e M kk
    unfold f_X10_isWord_L14 at e
    refine z_iload_n E 2 dX10_isWord_14 rfl ?_
    refine z_aload_n E 1 dX10_isWord_15 rfl ?_
    obtain ⟨_, e1, e⟩ := ob e
    obtain ⟨p2, e3, e⟩ := ob e
    refine z_kR2 (st := [.int v3]) (av := [.ref v2]) E k n (z_rV (st := [.int v3]) (av := []) E Y_J0_length_8abf5 k_X10_187 (ci := 0) rfl (c_J0_length_8abf5 (z_El E) e3) dX10_isWord_16 e1 rfl rfl (by decide) (by decide) (zk (k := k) (a := 0) hk (by decide)) (zk (k := n) (a := 0) hn (by decide)) (Nat.le_of_ble_eq_true rfl)) rfl rfl rfl ?_
    rcases oi e with ⟨c4, e⟩ | ⟨c4, e⟩
    · refine z_icmp_geT (tgt := 42) E dX10_isWord_19 rfl c4 ?_
      obtain rfl := Option.some.inj e
      exact z_sub [] rfl (kk _ rfl)
    · refine z_icmp_geF (tgt := 42) E dX10_isWord_19 rfl c4 ?_
      refine z_aload_n E 0 dX10_isWord_22 rfl ?_
      refine z_aload_n E 1 dX10_isWord_23 rfl ?_
      refine z_iload_n E 2 dX10_isWord_24 rfl ?_
      obtain ⟨_, e5, e⟩ := ob e
      obtain ⟨p6, e7, e⟩ := ob e
      refine z_kR2 (st := [.ref v0]) (av := [.ref v2, .int v3]) E k n (z_rV (st := [.ref v0]) (av := [.int v3]) E Y_J0_charAt_5068e k_X10_191 (ci := 0) rfl (c_J0_charAt_5068e (z_El E) e7) dX10_isWord_25 e5 rfl rfl (by decide) (by decide) (zk (k := k) (a := 0) hk (by decide)) (zk (k := n) (a := 0) hn (by decide)) (Nat.le_of_ble_eq_true rfl)) rfl rfl rfl ?_
      obtain ⟨_, e8, e⟩ := ob e
      obtain ⟨p9, e10, e⟩ := ob e
      refine z_kR2 (st := []) (av := [.ref v0, .int p6]) E k n (z_rV (st := []) (av := [.int p6]) E Y_X10_skips k_X10_194 (ci := 12) rfl (c_X10_skips (z_El E) e10) dX10_isWord_28 e8 rfl rfl (by decide) (by decide) (zk (k := k) (a := 0) hk (by decide)) (zk (k := n) (a := 0) hn (by decide)) (Nat.zero_le _)) rfl rfl rfl ?_
      rcases oi e with ⟨c11, e⟩ | ⟨c11, e⟩
      · refine z_if_neT (tgt := 36) E dX10_isWord_31 rfl (zb_t c11) ?_
        refine z_iinc (v := (v3 + (1 : Int32))) (lv2 := [(3, .int (v3 + (1 : Int32))), (0, .ref v0), (2, .ref v2)]) E 2 dX10_isWord_36 rfl (congrArg (v3 + ·) ic_1) (by decide) rfl ?_
        refine z_goto (tgt := 14) E dX10_isWord_39 rfl ?_
        exact z_sub [1, 2, 0] rfl (ih _ _ _ _ e M kk)
      · refine z_if_neF (tgt := 36) E dX10_isWord_31 rfl (zb_nt c11) ?_
        refine z_iconst E dX10_isWord_34 ic_0 ?_
        have M := M _ (Option.some.inj e).symm
        exact z_iret E M dX10_isWord_35 rfl rfl rfl rfl (zk (k := k) (a := 0) hk (by decide)) (zk (k := n) (a := 0) hn (by decide))
noncomputable def f_X10_isWord (h : PH) (a0 : Nat) (a1 : Int32) (a2 : Nat) : Option (Bool × PH) :=
  (rdR h a0 12 18).bind fun x1 =>
  (rdI h a0 12 19).bind fun x3 =>
  (asI .int h x1 ((4 : Int32) * x3) a1).bind fun h5 =>
  (f_X10_isWord_L14 FV h5 a0 a2 (0 : Int32)).bind fun s7 =>
  Sum.elim (fun q9 => some q9) (fun t10 =>
    some (true, t10)) s7
theorem b_X10_isWord {X : PX} (E : z_E X cX10_isWord RX10 "isWord" 4 rmX10_isWord (some .boolean)) (T0 : z_T0 X) {h : PH} {a0 : Nat} {a1 : Int32} {a2 : Nat} {r : (Bool × PH)} (e : f_X10_isWord h a0 a1 a2 = some r) (M : z_M X rmX10_isWord.cells rmX10_isWord.slots (.inr (some (.int (zb r.1)))) r.2) : WP X 4 0 0 0 [(0, .ref a0), (1, .int a1), (2, .ref a2)] [] h := by
  unfold f_X10_isWord at e
  refine z_aload_n E 0 dX10_isWord_0 rfl ?_
  obtain ⟨x1, e2, e⟩ := ob e
  refine z_getR E fl_X10_33 dX10_isWord_1 e2 ?_
  refine z_iconst E dX10_isWord_4 ic_4 ?_
  refine z_aload_n E 0 dX10_isWord_5 rfl ?_
  obtain ⟨x3, e4, e⟩ := ob e
  refine z_getI E fl_X10_184 dX10_isWord_6 e4 ?_
  refine z_imul E dX10_isWord_9 ?_
  refine z_iload_n E 1 dX10_isWord_10 rfl ?_
  obtain ⟨h5, e6, e⟩ := ob e
  refine z_iast E dX10_isWord_11 e6 ?_
  refine z_iconst E dX10_isWord_12 ic_0 ?_
  refine z_istore_n (lv2 := [(3, .int (0 : Int32)), (0, .ref a0), (1, .int a1), (2, .ref a2)]) E dX10_isWord_13 (by decide) rfl ?_
  obtain ⟨s7, e8, e⟩ := ob e
  refine z_sub [1, 3, 0] rfl (b_X10_isWord_L14 E T0 (by decide) (by decide) FV _ _ _ _ e8 (fun q9 c11 => ?_) (fun t10 c11 => ?_))
  · have e := os_l e c11
    obtain rfl := Option.some.inj e
    exact M
  · have e := os_r e c11
    refine z_iconst E dX10_isWord_42 ic_1 ?_
    obtain rfl := Option.some.inj e
    exact z_iret E M dX10_isWord_43 rfl rfl rfl rfl (by decide) (by decide)
theorem c_X10_isWord {l : Launch} (hl : l.stackTraces = false) {h : PH} {a0 : Nat} {a1 : Int32} {a2 : Nat} {r : (Bool × PH)} (e : f_X10_isWord h a0 a1 a2 = some r) : CMet l yX10_isWord (z_W yX10_isWord cX10_isWord 4 (some .boolean)) rmX10_isWord h [.ref a0, .int a1, .ref a2] (.inr (some (.int (zb r.1)))) r.2 :=
  z_met hl Y_X10_isWord (by decide +kernel) (Nat.le_of_ble_eq_true rfl) (fun X hX E T0 M => b_X10_isWord E T0 e M)
abbrev rmX10_digits : Room := { frames := 1, cells := 0, slots := 0, locals := 22 }
noncomputable def f_X10_digits_L25 : Nat → PH → Nat → Int32 → Int32 → Int32 → Option PH
  | 0, _, _, _, _, _ => none
  | fu + 1, h, v0, v1, v2, v3 =>
    if v2 ≤ v3 then
      some h
    else
      (gd h v0 12).bind fun _ =>
      (f_X10_here h v0).bind fun p3 =>
      if (f_X10_in p3 (48 : Int32) (57 : Int32)) = false then
        some h
      else
        (rdR h v0 12 18).bind fun x6 =>
        (rdR h v0 12 18).bind fun x8 =>
        (alI .int h x8 v1).bind fun x10 =>
        (gd h v0 12).bind fun _ =>
        (f_X10_here h v0).bind fun p13 =>
        (asI .int h x6 v1 ((((10 : Int32) * x10) + p13) - (48 : Int32))).bind fun h15 =>
        (rdI h15 v0 12 17).bind fun x17 =>
        (wr h15 v0 12 17 (.int (x17 + (1 : Int32)))).bind fun h19 =>
        f_X10_digits_L25 fu h19 v0 v1 v2 (v3 + (1 : Int32))
theorem b_X10_digits_L25 {X : PX} (E : z_E X cX10_digits RX10 "digits" 4 rmX10_digits (some .boolean)) (T0 : z_T0 X) {k n : Nat} (hk : k + 0 ≤ rmX10_digits.cells) (hn : n + 0 ≤ rmX10_digits.slots) {s : PH} : ∀ (fu : Nat) (h : PH) (v0 : Nat) (v1 : Int32) (v2 : Int32) (v3 : Int32) (e : f_X10_digits_L25 fu h v0 v1 v2 v3 = some s) (kk : WP X 4 k n 83 [] [] s), WP X 4 k n 25 [(0, .ref v0), (1, .int v1), (2, .int v2), (3, .int v3)] [] h := by
  intro fu
  induction fu with
  | zero => intro h v0 v1 v2 v3 e; exact absurd (show (none : Option PH) = some s from e) (by intro z; cases z)
  | succ fu ih =>
    intro h v0 v1 v2 v3 e kk
    unfold f_X10_digits_L25 at e
    refine z_iload_n E 3 dX10_digits_25 rfl ?_
    refine z_iload_n E 2 dX10_digits_26 rfl ?_
    rcases oi e with ⟨c1, e⟩ | ⟨c1, e⟩
    · refine z_icmp_geT (tgt := 83) E dX10_digits_27 rfl c1 ?_
      obtain rfl := Option.some.inj e
      exact z_sub [] rfl kk
    · refine z_icmp_geF (tgt := 83) E dX10_digits_27 rfl c1 ?_
      refine z_aload_n E 0 dX10_digits_30 rfl ?_
      obtain ⟨_, e2, e⟩ := ob e
      obtain ⟨p3, e4, e⟩ := ob e
      refine z_kR2 (st := []) (av := [.ref v0]) E k n (z_rV (st := []) (av := []) E Y_X10_here k_X10_181 (ci := 12) rfl (c_X10_here (z_El E) e4) dX10_digits_31 e2 rfl rfl (by decide) (by decide) (zk (k := k) (a := 0) hk (by decide)) (zk (k := n) (a := 0) hn (by decide)) (Nat.zero_le _)) rfl rfl rfl ?_
      refine z_bipush E dX10_digits_34 bp_48 ?_
      refine z_bipush E dX10_digits_36 bp_57 ?_
      refine z_kR2 (st := []) (av := [.int p3, .int (48 : Int32), .int (57 : Int32)]) E k n (z_rS (st := []) (av := [.int p3, .int (48 : Int32), .int (57 : Int32)]) E Y_X10_in k_X10_62 (c_X10_in (l := z_l X) (h := h) (z_El E) p3 (48 : Int32) (57 : Int32)) dX10_digits_38 rfl rfl (by decide) (by decide) (zk (k := k) (a := 0) hk (by decide)) (zk (k := n) (a := 0) hn (by decide)) (Nat.zero_le _)) rfl rfl rfl ?_
      rcases oi e with ⟨c5, e⟩ | ⟨c5, e⟩
      · refine z_if_eqT (tgt := 83) E dX10_digits_41 rfl (zb_f c5) ?_
        obtain rfl := Option.some.inj e
        exact z_sub [] rfl kk
      · refine z_if_eqF (tgt := 83) E dX10_digits_41 rfl (zb_nf c5) ?_
        refine z_aload_n E 0 dX10_digits_44 rfl ?_
        obtain ⟨x6, e7, e⟩ := ob e
        refine z_getR E fl_X10_33 dX10_digits_45 e7 ?_
        refine z_iload_n E 1 dX10_digits_48 rfl ?_
        refine z_bipush E dX10_digits_49 bp_10 ?_
        refine z_aload_n E 0 dX10_digits_51 rfl ?_
        obtain ⟨x8, e9, e⟩ := ob e
        refine z_getR E fl_X10_33 dX10_digits_52 e9 ?_
        refine z_iload_n E 1 dX10_digits_55 rfl ?_
        obtain ⟨x10, e11, e⟩ := ob e
        refine z_iald E dX10_digits_56 e11 ?_
        refine z_imul E dX10_digits_57 ?_
        refine z_aload_n E 0 dX10_digits_58 rfl ?_
        obtain ⟨_, e12, e⟩ := ob e
        obtain ⟨p13, e14, e⟩ := ob e
        refine z_kR2 (st := [.int ((10 : Int32) * x10), .int v1, .ref x6]) (av := [.ref v0]) E k n (z_rV (st := [.int ((10 : Int32) * x10), .int v1, .ref x6]) (av := []) E Y_X10_here k_X10_181 (ci := 12) rfl (c_X10_here (z_El E) e14) dX10_digits_59 e12 rfl rfl (by decide) (by decide) (zk (k := k) (a := 0) hk (by decide)) (zk (k := n) (a := 0) hn (by decide)) (Nat.le_of_ble_eq_true rfl)) rfl rfl rfl ?_
        refine z_iadd E dX10_digits_62 ?_
        refine z_bipush E dX10_digits_63 bp_48 ?_
        refine z_isub E dX10_digits_65 ?_
        obtain ⟨h15, e16, e⟩ := ob e
        refine z_iast E dX10_digits_66 e16 ?_
        refine z_aload_n E 0 dX10_digits_67 rfl ?_
        refine z_dup E dX10_digits_68 rfl ?_
        obtain ⟨x17, e18, e⟩ := ob e
        refine z_getI E fl_X10_178 dX10_digits_69 e18 ?_
        refine z_iconst E dX10_digits_72 ic_1 ?_
        refine z_iadd E dX10_digits_73 ?_
        obtain ⟨h19, e20, e⟩ := ob e
        refine z_putI E fp_X10_178 (Or.inl rfl) dX10_digits_74 e20 ?_
        refine z_iinc (v := (v3 + (1 : Int32))) (lv2 := [(3, .int (v3 + (1 : Int32))), (0, .ref v0), (1, .int v1), (2, .int v2)]) E 3 dX10_digits_77 rfl (congrArg (v3 + ·) ic_1) (by decide) rfl ?_
        refine z_goto (tgt := 25) E dX10_digits_80 rfl ?_
        exact z_sub [1, 2, 3, 0] rfl (ih _ _ _ _ _ e kk)
noncomputable def f_X10_digits (h : PH) (a0 : Nat) (a1 : Int32) (a2 : Int32) : Option (Bool × PH) :=
  (gd h a0 12).bind fun _ =>
  (f_X10_here h a0).bind fun p2 =>
  if (f_X10_in p2 (48 : Int32) (57 : Int32)) = true then
    (rdR h a0 12 18).bind fun x5 =>
    (asI .int h x5 a1 (0 : Int32)).bind fun h7 =>
    (f_X10_digits_L25 FV h7 a0 a1 a2 (0 : Int32)).bind fun s9 =>
    some (true, s9)
  else
    some (false, h)
theorem b_X10_digits {X : PX} (E : z_E X cX10_digits RX10 "digits" 4 rmX10_digits (some .boolean)) (T0 : z_T0 X) {h : PH} {a0 : Nat} {a1 : Int32} {a2 : Int32} {r : (Bool × PH)} (e : f_X10_digits h a0 a1 a2 = some r) (M : z_M X rmX10_digits.cells rmX10_digits.slots (.inr (some (.int (zb r.1)))) r.2) : WP X 4 0 0 0 [(0, .ref a0), (1, .int a1), (2, .int a2)] [] h := by
  unfold f_X10_digits at e
  refine z_aload_n E 0 dX10_digits_0 rfl ?_
  obtain ⟨_, e1, e⟩ := ob e
  obtain ⟨p2, e3, e⟩ := ob e
  refine z_kR2 (st := []) (av := [.ref a0]) E 0 0 (z_rV (st := []) (av := []) E Y_X10_here k_X10_181 (ci := 12) rfl (c_X10_here (z_El E) e3) dX10_digits_1 e1 rfl rfl (by decide) (by decide) (by decide) (by decide) (Nat.zero_le _)) rfl rfl rfl ?_
  refine z_bipush E dX10_digits_4 bp_48 ?_
  refine z_bipush E dX10_digits_6 bp_57 ?_
  refine z_kR2 (st := []) (av := [.int p2, .int (48 : Int32), .int (57 : Int32)]) E 0 0 (z_rS (st := []) (av := [.int p2, .int (48 : Int32), .int (57 : Int32)]) E Y_X10_in k_X10_62 (c_X10_in (l := z_l X) (h := h) (z_El E) p2 (48 : Int32) (57 : Int32)) dX10_digits_8 rfl rfl (by decide) (by decide) (by decide) (by decide) (Nat.zero_le _)) rfl rfl rfl ?_
  rcases oi e with ⟨c4, e⟩ | ⟨c4, e⟩
  · refine z_if_neT (tgt := 16) E dX10_digits_11 rfl (zb_t c4) ?_
    refine z_aload_n E 0 dX10_digits_16 rfl ?_
    obtain ⟨x5, e6, e⟩ := ob e
    refine z_getR E fl_X10_33 dX10_digits_17 e6 ?_
    refine z_iload_n E 1 dX10_digits_20 rfl ?_
    refine z_iconst E dX10_digits_21 ic_0 ?_
    obtain ⟨h7, e8, e⟩ := ob e
    refine z_iast E dX10_digits_22 e8 ?_
    refine z_iconst E dX10_digits_23 ic_0 ?_
    refine z_istore_n (lv2 := [(3, .int (0 : Int32)), (0, .ref a0), (1, .int a1), (2, .int a2)]) E dX10_digits_24 (by decide) rfl ?_
    obtain ⟨s9, e10, e⟩ := ob e
    refine z_sub [1, 2, 3, 0] rfl (b_X10_digits_L25 E T0 (by decide) (by decide) FV _ _ _ _ _ e10 ?_)
    refine z_iconst E dX10_digits_83 ic_1 ?_
    obtain rfl := Option.some.inj e
    exact z_iret E M dX10_digits_84 rfl rfl rfl rfl (by decide) (by decide)
  · refine z_if_neF (tgt := 16) E dX10_digits_11 rfl (zb_nt c4) ?_
    refine z_iconst E dX10_digits_14 ic_0 ?_
    obtain rfl := Option.some.inj e
    exact z_iret E M dX10_digits_15 rfl rfl rfl rfl (by decide) (by decide)
theorem c_X10_digits {l : Launch} (hl : l.stackTraces = false) {h : PH} {a0 : Nat} {a1 : Int32} {a2 : Int32} {r : (Bool × PH)} (e : f_X10_digits h a0 a1 a2 = some r) : CMet l yX10_digits (z_W yX10_digits cX10_digits 4 (some .boolean)) rmX10_digits h [.ref a0, .int a1, .int a2] (.inr (some (.int (zb r.1)))) r.2 :=
  z_met hl Y_X10_digits (by decide +kernel) (Nat.le_of_ble_eq_true rfl) (fun X hX E T0 M => b_X10_digits E T0 e M)
abbrev rmX10_figures : Room := { frames := 2, cells := 0, slots := 0, locals := 45 }
noncomputable def f_X10_figures (h : PH) (a0 : Nat) (a1 : Int32) (a2 : Int32) (a3 : Int32) : Option (Bool × PH) :=
  (gd h a0 12).bind fun _ =>
  (f_X10_skips h a0 a1).bind fun p2 =>
  if p2.1 = false then
    some (false, p2.2)
  else
    (gd p2.2 a0 12).bind fun _ =>
    (f_X10_digits p2.2 a0 a2 a3).bind fun p6 =>
    if p6.1 = false then
      some (false, p6.2)
    else
      some (true, p6.2)
theorem b_X10_figures {X : PX} (E : z_E X cX10_figures RX10 "figures" 4 rmX10_figures (some .boolean)) (T0 : z_T0 X) {h : PH} {a0 : Nat} {a1 : Int32} {a2 : Int32} {a3 : Int32} {r : (Bool × PH)} (e : f_X10_figures h a0 a1 a2 a3 = some r) (M : z_M X rmX10_figures.cells rmX10_figures.slots (.inr (some (.int (zb r.1)))) r.2) : WP X 4 0 0 0 [(0, .ref a0), (1, .int a1), (2, .int a2), (3, .int a3)] [] h := by
  unfold f_X10_figures at e
  refine z_aload_n E 0 dX10_figures_0 rfl ?_
  refine z_iload_n E 1 dX10_figures_1 rfl ?_
  obtain ⟨_, e1, e⟩ := ob e
  obtain ⟨p2, e3, e⟩ := ob e
  refine z_kR2 (st := []) (av := [.ref a0, .int a1]) E 0 0 (z_rV (st := []) (av := [.int a1]) E Y_X10_skips k_X10_194 (ci := 12) rfl (c_X10_skips (z_El E) e3) dX10_figures_2 e1 rfl rfl (by decide) (by decide) (by decide) (by decide) (Nat.zero_le _)) rfl rfl rfl ?_
  rcases oi e with ⟨c4, e⟩ | ⟨c4, e⟩
  · refine z_if_eqT (tgt := 21) E dX10_figures_5 rfl (zb_f c4) ?_
    refine z_iconst E dX10_figures_21 ic_0 ?_
    obtain rfl := Option.some.inj e
    exact z_iret E M dX10_figures_22 rfl rfl rfl rfl (by decide) (by decide)
  · refine z_if_eqF (tgt := 21) E dX10_figures_5 rfl (zb_nf c4) ?_
    refine z_aload_n E 0 dX10_figures_8 rfl ?_
    refine z_iload_n E 2 dX10_figures_9 rfl ?_
    refine z_iload_n E 3 dX10_figures_10 rfl ?_
    obtain ⟨_, e5, e⟩ := ob e
    obtain ⟨p6, e7, e⟩ := ob e
    refine z_kR2 (st := []) (av := [.ref a0, .int a2, .int a3]) E 0 0 (z_rV (st := []) (av := [.int a2, .int a3]) E Y_X10_digits k_X10_197 (ci := 12) rfl (c_X10_digits (z_El E) e7) dX10_figures_11 e5 rfl rfl (by decide) (by decide) (by decide) (by decide) (Nat.zero_le _)) rfl rfl rfl ?_
    rcases oi e with ⟨c8, e⟩ | ⟨c8, e⟩
    · refine z_if_eqT (tgt := 21) E dX10_figures_14 rfl (zb_f c8) ?_
      refine z_iconst E dX10_figures_21 ic_0 ?_
      obtain rfl := Option.some.inj e
      exact z_iret E M dX10_figures_22 rfl rfl rfl rfl (by decide) (by decide)
    · refine z_if_eqF (tgt := 21) E dX10_figures_14 rfl (zb_nf c8) ?_
      refine z_iconst E dX10_figures_17 ic_1 ?_
      refine z_goto (tgt := 22) E dX10_figures_18 rfl ?_
      obtain rfl := Option.some.inj e
      exact z_iret E M dX10_figures_22 rfl rfl rfl rfl (by decide) (by decide)
theorem c_X10_figures {l : Launch} (hl : l.stackTraces = false) {h : PH} {a0 : Nat} {a1 : Int32} {a2 : Int32} {a3 : Int32} {r : (Bool × PH)} (e : f_X10_figures h a0 a1 a2 a3 = some r) : CMet l yX10_figures (z_W yX10_figures cX10_figures 4 (some .boolean)) rmX10_figures h [.ref a0, .int a1, .int a2, .int a3] (.inr (some (.int (zb r.1)))) r.2 :=
  z_met hl Y_X10_figures (by decide +kernel) (Nat.le_of_ble_eq_true rfl) (fun X hX E T0 M => b_X10_figures E T0 e M)
abbrev rmX10_signed : Room := { frames := 2, cells := 0, slots := 0, locals := 45 }
noncomputable def f_X10_signed (h : PH) (a0 : Nat) (a1 : Int32) : Option (Bool × PH) :=
  (gd h a0 12).bind fun _ =>
  (f_X10_skips h a0 (61 : Int32)).bind fun p2 =>
  if p2.1 = true then
    (gd p2.2 a0 12).bind fun _ =>
    (f_X10_skips p2.2 a0 (45 : Int32)).bind fun p6 =>
    (gd p6.2 a0 12).bind fun _ =>
    (f_X10_digits p6.2 a0 a1 (1 : Int32)).bind fun p9 =>
    if p9.1 = true then
      (rdR p9.2 a0 12 18).bind fun x12 =>
      if p6.1 = false then
        (rdR p9.2 a0 12 18).bind fun x15 =>
        (alI .int p9.2 x15 a1).bind fun x17 =>
        (asI .int p9.2 x12 a1 x17).bind fun h19 =>
        some (true, h19)
      else
        (rdR p9.2 a0 12 18).bind fun x21 =>
        (alI .int p9.2 x21 a1).bind fun x23 =>
        (asI .int p9.2 x12 a1 (-x23)).bind fun h25 =>
        some (true, h25)
    else
      some (false, p9.2)
  else
    some (false, p2.2)
theorem b_X10_signed {X : PX} (E : z_E X cX10_signed RX10 "signed" 3 rmX10_signed (some .boolean)) (T0 : z_T0 X) {h : PH} {a0 : Nat} {a1 : Int32} {r : (Bool × PH)} (e : f_X10_signed h a0 a1 = some r) (M : z_M X rmX10_signed.cells rmX10_signed.slots (.inr (some (.int (zb r.1)))) r.2) : WP X 3 0 0 0 [(0, .ref a0), (1, .int a1)] [] h := by
  unfold f_X10_signed at e
  refine z_aload_n E 0 dX10_signed_0 rfl ?_
  refine z_bipush E dX10_signed_1 bp_61 ?_
  obtain ⟨_, e1, e⟩ := ob e
  obtain ⟨p2, e3, e⟩ := ob e
  refine z_kR2 (st := []) (av := [.ref a0, .int (61 : Int32)]) E 0 0 (z_rV (st := []) (av := [.int (61 : Int32)]) E Y_X10_skips k_X10_194 (ci := 12) rfl (c_X10_skips (z_El E) e3) dX10_signed_3 e1 rfl rfl (by decide) (by decide) (by decide) (by decide) (Nat.zero_le _)) rfl rfl rfl ?_
  rcases oi e with ⟨c4, e⟩ | ⟨c4, e⟩
  · refine z_if_neT (tgt := 11) E dX10_signed_6 rfl (zb_t c4) ?_
    refine z_aload_n E 0 dX10_signed_11 rfl ?_
    refine z_bipush E dX10_signed_12 bp_45 ?_
    obtain ⟨_, e5, e⟩ := ob e
    obtain ⟨p6, e7, e⟩ := ob e
    refine z_kR2 (st := []) (av := [.ref a0, .int (45 : Int32)]) E 0 0 (z_rV (st := []) (av := [.int (45 : Int32)]) E Y_X10_skips k_X10_194 (ci := 12) rfl (c_X10_skips (z_El E) e7) dX10_signed_14 e5 rfl rfl (by decide) (by decide) (by decide) (by decide) (Nat.zero_le _)) rfl rfl rfl ?_
    refine z_istore_n (lv2 := [(2, .int (zb p6.1)), (0, .ref a0), (1, .int a1)]) E dX10_signed_17 (by decide) rfl ?_
    refine z_aload_n E 1 dX10_signed_18 rfl ?_
    refine z_iload_n E 2 dX10_signed_19 rfl ?_
    refine z_iconst E dX10_signed_20 ic_1 ?_
    obtain ⟨_, e8, e⟩ := ob e
    obtain ⟨p9, e10, e⟩ := ob e
    refine z_kR2 (st := []) (av := [.ref a0, .int a1, .int (1 : Int32)]) E 0 0 (z_rV (st := []) (av := [.int a1, .int (1 : Int32)]) E Y_X10_digits k_X10_197 (ci := 12) rfl (c_X10_digits (z_El E) e10) dX10_signed_21 e8 rfl rfl (by decide) (by decide) (by decide) (by decide) (Nat.zero_le _)) rfl rfl rfl ?_
    rcases oi e with ⟨c11, e⟩ | ⟨c11, e⟩
    · refine z_if_neT (tgt := 29) E dX10_signed_24 rfl (zb_t c11) ?_
      refine z_aload_n E 1 dX10_signed_29 rfl ?_
      obtain ⟨x12, e13, e⟩ := ob e
      refine z_getR E fl_X10_33 dX10_signed_30 e13 ?_
      refine z_iload_n E 2 dX10_signed_33 rfl ?_
      refine z_iload_n E 0 dX10_signed_34 rfl ?_
      rcases oi e with ⟨c14, e⟩ | ⟨c14, e⟩
      · refine z_if_eqT (tgt := 48) E dX10_signed_35 rfl (zb_f c14) ?_
        refine z_aload_n E 1 dX10_signed_48 rfl ?_
        obtain ⟨x15, e16, e⟩ := ob e
        refine z_getR E fl_X10_33 dX10_signed_49 e16 ?_
        refine z_iload_n E 2 dX10_signed_52 rfl ?_
        obtain ⟨x17, e18, e⟩ := ob e
        refine z_iald E dX10_signed_53 e18 ?_
        obtain ⟨h19, e20, e⟩ := ob e
        refine z_iast E dX10_signed_54 e20 ?_
        refine z_iconst E dX10_signed_55 ic_1 ?_
        obtain rfl := Option.some.inj e
        exact z_iret E M dX10_signed_56 rfl rfl rfl rfl (by decide) (by decide)
      · refine z_if_eqF (tgt := 48) E dX10_signed_35 rfl (zb_nf c14) ?_
        refine z_aload_n E 1 dX10_signed_38 rfl ?_
        obtain ⟨x21, e22, e⟩ := ob e
        refine z_getR E fl_X10_33 dX10_signed_39 e22 ?_
        refine z_iload_n E 2 dX10_signed_42 rfl ?_
        obtain ⟨x23, e24, e⟩ := ob e
        refine z_iald E dX10_signed_43 e24 ?_
        refine z_ineg E dX10_signed_44 ?_
        refine z_goto (tgt := 54) E dX10_signed_45 rfl ?_
        obtain ⟨h25, e26, e⟩ := ob e
        refine z_iast E dX10_signed_54 e26 ?_
        refine z_iconst E dX10_signed_55 ic_1 ?_
        obtain rfl := Option.some.inj e
        exact z_iret E M dX10_signed_56 rfl rfl rfl rfl (by decide) (by decide)
    · refine z_if_neF (tgt := 29) E dX10_signed_24 rfl (zb_nt c11) ?_
      refine z_iconst E dX10_signed_27 ic_0 ?_
      obtain rfl := Option.some.inj e
      exact z_iret E M dX10_signed_28 rfl rfl rfl rfl (by decide) (by decide)
  · refine z_if_neF (tgt := 11) E dX10_signed_6 rfl (zb_nt c4) ?_
    refine z_iconst E dX10_signed_9 ic_0 ?_
    obtain rfl := Option.some.inj e
    exact z_iret E M dX10_signed_10 rfl rfl rfl rfl (by decide) (by decide)
theorem c_X10_signed {l : Launch} (hl : l.stackTraces = false) {h : PH} {a0 : Nat} {a1 : Int32} {r : (Bool × PH)} (e : f_X10_signed h a0 a1 = some r) : CMet l yX10_signed (z_W yX10_signed cX10_signed 3 (some .boolean)) rmX10_signed h [.ref a0, .int a1] (.inr (some (.int (zb r.1)))) r.2 :=
  z_met hl Y_X10_signed (by decide +kernel) (Nat.le_of_ble_eq_true rfl) (fun X hX E T0 M => b_X10_signed E T0 e M)
abbrev rmX10_withC : Room := { frames := 12, cells := 0, slots := 0, locals := 226 }
noncomputable def f_X10_withC (h : PH) (a0 : Nat) (a1 : Int32) : Option (Bool × PH) :=
  (gd h a0 12).bind fun _ =>
  (f_X10_skips h a0 (105 : Int32)).bind fun p2 =>
  if p2.1 = false then
    (gd p2.2 a0 12).bind fun _ =>
    (f_X10_skips p2.2 a0 (117 : Int32)).bind fun p6 =>
    if p6.1 = true then
      (gd p6.2 a0 12).bind fun _ =>
      (f_X10_skips p6.2 a0 (116 : Int32)).bind fun p10 =>
      if p10.1 = false then
        (gd p10.2 a0 12).bind fun _ =>
        (f_X10_isWord p10.2 a0 (3 : Int32) 66).bind fun p14 =>
        if p14.1 = false then
          some (false, p14.2)
        else
          (gd p14.2 a0 12).bind fun _ =>
          (f_X10_figures p14.2 a0 (32 : Int32) a1 (2 : Int32)).bind fun p18 =>
          if p18.1 = false then
            some (false, p18.2)
          else
            (gd p18.2 a0 12).bind fun _ =>
            (f_X10_signed p18.2 a0 (a1 + (1 : Int32))).bind fun p22 =>
            if p22.1 = false then
              some (false, p22.2)
            else
              some (true, p22.2)
      else
        (gd p10.2 a0 12).bind fun _ =>
        (f_X10_isWord p10.2 a0 (5 : Int32) 64).bind fun p26 =>
        if p26.1 = false then
          some (false, p26.2)
        else
          (gd p26.2 a0 12).bind fun _ =>
          (f_X10_figures p26.2 a0 (32 : Int32) a1 (1 : Int32)).bind fun p30 =>
          if p30.1 = false then
            some (false, p30.2)
          else
            some (true, p30.2)
    else
      some (false, p6.2)
  else
    (gd p2.2 a0 12).bind fun _ =>
    (f_X10_isWord p2.2 a0 (1 : Int32) 62).bind fun p34 =>
    if p34.1 = false then
      some (false, p34.2)
    else
      (gd p34.2 a0 12).bind fun _ =>
      (f_X10_figures p34.2 a0 (32 : Int32) a1 (1 : Int32)).bind fun p38 =>
      if p38.1 = false then
        some (false, p38.2)
      else
        (gd p38.2 a0 12).bind fun _ =>
        (f_X10_figures p38.2 a0 (62 : Int32) (a1 + (1 : Int32)) (1 : Int32)).bind fun p42 =>
        if p42.1 = false then
          some (false, p42.2)
        else
          some (true, p42.2)
theorem b_X10_withC {X : PX} (E : z_E X cX10_withC RX10 "withC" 2 rmX10_withC (some .boolean)) (T0 : z_T0 X) {h : PH} {a0 : Nat} {a1 : Int32} {r : (Bool × PH)} (e : f_X10_withC h a0 a1 = some r) (M : z_M X rmX10_withC.cells rmX10_withC.slots (.inr (some (.int (zb r.1)))) r.2) : WP X 2 0 0 0 [(0, .ref a0), (1, .int a1)] [] h := by
  unfold f_X10_withC at e
  refine z_aload_n E 0 dX10_withC_0 rfl ?_
  refine z_bipush E dX10_withC_1 bp_105 ?_
  obtain ⟨_, e1, e⟩ := ob e
  obtain ⟨p2, e3, e⟩ := ob e
  refine z_kR2 (st := []) (av := [.ref a0, .int (105 : Int32)]) E 0 0 (z_rV (st := []) (av := [.int (105 : Int32)]) E Y_X10_skips k_X10_194 (ci := 12) rfl (c_X10_skips (z_El E) e3) dX10_withC_3 e1 rfl rfl (by decide) (by decide) (by decide) (by decide) (Nat.zero_le _)) rfl rfl rfl ?_
  rcases oi e with ⟨c4, e⟩ | ⟨c4, e⟩
  · refine z_if_eqT (tgt := 49) E dX10_withC_6 rfl (zb_f c4) ?_
    refine z_aload_n E 0 dX10_withC_49 rfl ?_
    refine z_bipush E dX10_withC_50 bp_117 ?_
    obtain ⟨_, e5, e⟩ := ob e
    obtain ⟨p6, e7, e⟩ := ob e
    refine z_kR2 (st := []) (av := [.ref a0, .int (117 : Int32)]) E 0 0 (z_rV (st := []) (av := [.int (117 : Int32)]) E Y_X10_skips k_X10_194 (ci := 12) rfl (c_X10_skips (z_El E) e7) dX10_withC_52 e5 rfl rfl (by decide) (by decide) (by decide) (by decide) (Nat.zero_le _)) rfl rfl rfl ?_
    rcases oi e with ⟨c8, e⟩ | ⟨c8, e⟩
    · refine z_if_neT (tgt := 60) E dX10_withC_55 rfl (zb_t c8) ?_
      refine z_aload_n E 0 dX10_withC_60 rfl ?_
      refine z_bipush E dX10_withC_61 bp_116 ?_
      obtain ⟨_, e9, e⟩ := ob e
      obtain ⟨p10, e11, e⟩ := ob e
      refine z_kR2 (st := []) (av := [.ref a0, .int (116 : Int32)]) E 0 0 (z_rV (st := []) (av := [.int (116 : Int32)]) E Y_X10_skips k_X10_194 (ci := 12) rfl (c_X10_skips (z_El E) e11) dX10_withC_63 e9 rfl rfl (by decide) (by decide) (by decide) (by decide) (Nat.zero_le _)) rfl rfl rfl ?_
      rcases oi e with ⟨c12, e⟩ | ⟨c12, e⟩
      · refine z_if_eqT (tgt := 98) E dX10_withC_66 rfl (zb_f c12) ?_
        refine z_aload_n E 0 dX10_withC_98 rfl ?_
        refine z_iconst E dX10_withC_99 ic_3 ?_
        refine z_ldcS E ks_X10_211 dX10_withC_100 ?_
        obtain ⟨_, e13, e⟩ := ob e
        obtain ⟨p14, e15, e⟩ := ob e
        refine z_kR2 (st := []) (av := [.ref a0, .int (3 : Int32), .ref 66]) E 0 0 (z_rV (st := []) (av := [.int (3 : Int32), .ref 66]) E Y_X10_isWord k_X10_202 (ci := 12) rfl (c_X10_isWord (z_El E) e15) dX10_withC_102 e13 rfl rfl (by decide) (by decide) (by decide) (by decide) (Nat.zero_le _)) rfl rfl rfl ?_
        rcases oi e with ⟨c16, e⟩ | ⟨c16, e⟩
        · refine z_if_eqT (tgt := 133) E dX10_withC_105 rfl (zb_f c16) ?_
          refine z_iconst E dX10_withC_133 ic_0 ?_
          obtain rfl := Option.some.inj e
          exact z_iret E M dX10_withC_134 rfl rfl rfl rfl (by decide) (by decide)
        · refine z_if_eqF (tgt := 133) E dX10_withC_105 rfl (zb_nf c16) ?_
          refine z_aload_n E 0 dX10_withC_108 rfl ?_
          refine z_bipush E dX10_withC_109 bp_32 ?_
          refine z_iload_n E 1 dX10_withC_111 rfl ?_
          refine z_iconst E dX10_withC_112 ic_2 ?_
          obtain ⟨_, e17, e⟩ := ob e
          obtain ⟨p18, e19, e⟩ := ob e
          refine z_kR2 (st := []) (av := [.ref a0, .int (32 : Int32), .int a1, .int (2 : Int32)]) E 0 0 (z_rV (st := []) (av := [.int (32 : Int32), .int a1, .int (2 : Int32)]) E Y_X10_figures k_X10_206 (ci := 12) rfl (c_X10_figures (z_El E) e19) dX10_withC_113 e17 rfl rfl (by decide) (by decide) (by decide) (by decide) (Nat.zero_le _)) rfl rfl rfl ?_
          rcases oi e with ⟨c20, e⟩ | ⟨c20, e⟩
          · refine z_if_eqT (tgt := 133) E dX10_withC_116 rfl (zb_f c20) ?_
            refine z_iconst E dX10_withC_133 ic_0 ?_
            obtain rfl := Option.some.inj e
            exact z_iret E M dX10_withC_134 rfl rfl rfl rfl (by decide) (by decide)
          · refine z_if_eqF (tgt := 133) E dX10_withC_116 rfl (zb_nf c20) ?_
            refine z_aload_n E 0 dX10_withC_119 rfl ?_
            refine z_iload_n E 1 dX10_withC_120 rfl ?_
            refine z_iconst E dX10_withC_121 ic_1 ?_
            refine z_iadd E dX10_withC_122 ?_
            obtain ⟨_, e21, e⟩ := ob e
            obtain ⟨p22, e23, e⟩ := ob e
            refine z_kR2 (st := []) (av := [.ref a0, .int (a1 + (1 : Int32))]) E 0 0 (z_rV (st := []) (av := [.int (a1 + (1 : Int32))]) E Y_X10_signed k_X10_213 (ci := 12) rfl (c_X10_signed (z_El E) e23) dX10_withC_123 e21 rfl rfl (by decide) (by decide) (by decide) (by decide) (Nat.zero_le _)) rfl rfl rfl ?_
            rcases oi e with ⟨c24, e⟩ | ⟨c24, e⟩
            · refine z_if_eqT (tgt := 133) E dX10_withC_126 rfl (zb_f c24) ?_
              refine z_iconst E dX10_withC_133 ic_0 ?_
              obtain rfl := Option.some.inj e
              exact z_iret E M dX10_withC_134 rfl rfl rfl rfl (by decide) (by decide)
            · refine z_if_eqF (tgt := 133) E dX10_withC_126 rfl (zb_nf c24) ?_
              refine z_iconst E dX10_withC_129 ic_1 ?_
              refine z_goto (tgt := 134) E dX10_withC_130 rfl ?_
              obtain rfl := Option.some.inj e
              exact z_iret E M dX10_withC_134 rfl rfl rfl rfl (by decide) (by decide)
      · refine z_if_eqF (tgt := 98) E dX10_withC_66 rfl (zb_nf c12) ?_
        refine z_aload_n E 0 dX10_withC_69 rfl ?_
        refine z_iconst E dX10_withC_70 ic_5 ?_
        refine z_ldcS E ks_X10_209 dX10_withC_71 ?_
        obtain ⟨_, e25, e⟩ := ob e
        obtain ⟨p26, e27, e⟩ := ob e
        refine z_kR2 (st := []) (av := [.ref a0, .int (5 : Int32), .ref 64]) E 0 0 (z_rV (st := []) (av := [.int (5 : Int32), .ref 64]) E Y_X10_isWord k_X10_202 (ci := 12) rfl (c_X10_isWord (z_El E) e27) dX10_withC_73 e25 rfl rfl (by decide) (by decide) (by decide) (by decide) (Nat.zero_le _)) rfl rfl rfl ?_
        rcases oi e with ⟨c28, e⟩ | ⟨c28, e⟩
        · refine z_if_eqT (tgt := 94) E dX10_withC_76 rfl (zb_f c28) ?_
          refine z_iconst E dX10_withC_94 ic_0 ?_
          refine z_goto (tgt := 134) E dX10_withC_95 rfl ?_
          obtain rfl := Option.some.inj e
          exact z_iret E M dX10_withC_134 rfl rfl rfl rfl (by decide) (by decide)
        · refine z_if_eqF (tgt := 94) E dX10_withC_76 rfl (zb_nf c28) ?_
          refine z_aload_n E 0 dX10_withC_79 rfl ?_
          refine z_bipush E dX10_withC_80 bp_32 ?_
          refine z_iload_n E 1 dX10_withC_82 rfl ?_
          refine z_iconst E dX10_withC_83 ic_1 ?_
          obtain ⟨_, e29, e⟩ := ob e
          obtain ⟨p30, e31, e⟩ := ob e
          refine z_kR2 (st := []) (av := [.ref a0, .int (32 : Int32), .int a1, .int (1 : Int32)]) E 0 0 (z_rV (st := []) (av := [.int (32 : Int32), .int a1, .int (1 : Int32)]) E Y_X10_figures k_X10_206 (ci := 12) rfl (c_X10_figures (z_El E) e31) dX10_withC_84 e29 rfl rfl (by decide) (by decide) (by decide) (by decide) (Nat.zero_le _)) rfl rfl rfl ?_
          rcases oi e with ⟨c32, e⟩ | ⟨c32, e⟩
          · refine z_if_eqT (tgt := 94) E dX10_withC_87 rfl (zb_f c32) ?_
            refine z_iconst E dX10_withC_94 ic_0 ?_
            refine z_goto (tgt := 134) E dX10_withC_95 rfl ?_
            obtain rfl := Option.some.inj e
            exact z_iret E M dX10_withC_134 rfl rfl rfl rfl (by decide) (by decide)
          · refine z_if_eqF (tgt := 94) E dX10_withC_87 rfl (zb_nf c32) ?_
            refine z_iconst E dX10_withC_90 ic_1 ?_
            refine z_goto (tgt := 134) E dX10_withC_91 rfl ?_
            obtain rfl := Option.some.inj e
            exact z_iret E M dX10_withC_134 rfl rfl rfl rfl (by decide) (by decide)
    · refine z_if_neF (tgt := 60) E dX10_withC_55 rfl (zb_nt c8) ?_
      refine z_iconst E dX10_withC_58 ic_0 ?_
      obtain rfl := Option.some.inj e
      exact z_iret E M dX10_withC_59 rfl rfl rfl rfl (by decide) (by decide)
  · refine z_if_eqF (tgt := 49) E dX10_withC_6 rfl (zb_nf c4) ?_
    refine z_aload_n E 0 dX10_withC_9 rfl ?_
    refine z_iconst E dX10_withC_10 ic_1 ?_
    refine z_ldcS E ks_X10_200 dX10_withC_11 ?_
    obtain ⟨_, e33, e⟩ := ob e
    obtain ⟨p34, e35, e⟩ := ob e
    refine z_kR2 (st := []) (av := [.ref a0, .int (1 : Int32), .ref 62]) E 0 0 (z_rV (st := []) (av := [.int (1 : Int32), .ref 62]) E Y_X10_isWord k_X10_202 (ci := 12) rfl (c_X10_isWord (z_El E) e35) dX10_withC_13 e33 rfl rfl (by decide) (by decide) (by decide) (by decide) (Nat.zero_le _)) rfl rfl rfl ?_
    rcases oi e with ⟨c36, e⟩ | ⟨c36, e⟩
    · refine z_if_eqT (tgt := 47) E dX10_withC_16 rfl (zb_f c36) ?_
      refine z_iconst E dX10_withC_47 ic_0 ?_
      obtain rfl := Option.some.inj e
      exact z_iret E M dX10_withC_48 rfl rfl rfl rfl (by decide) (by decide)
    · refine z_if_eqF (tgt := 47) E dX10_withC_16 rfl (zb_nf c36) ?_
      refine z_aload_n E 0 dX10_withC_19 rfl ?_
      refine z_bipush E dX10_withC_20 bp_32 ?_
      refine z_iload_n E 1 dX10_withC_22 rfl ?_
      refine z_iconst E dX10_withC_23 ic_1 ?_
      obtain ⟨_, e37, e⟩ := ob e
      obtain ⟨p38, e39, e⟩ := ob e
      refine z_kR2 (st := []) (av := [.ref a0, .int (32 : Int32), .int a1, .int (1 : Int32)]) E 0 0 (z_rV (st := []) (av := [.int (32 : Int32), .int a1, .int (1 : Int32)]) E Y_X10_figures k_X10_206 (ci := 12) rfl (c_X10_figures (z_El E) e39) dX10_withC_24 e37 rfl rfl (by decide) (by decide) (by decide) (by decide) (Nat.zero_le _)) rfl rfl rfl ?_
      rcases oi e with ⟨c40, e⟩ | ⟨c40, e⟩
      · refine z_if_eqT (tgt := 47) E dX10_withC_27 rfl (zb_f c40) ?_
        refine z_iconst E dX10_withC_47 ic_0 ?_
        obtain rfl := Option.some.inj e
        exact z_iret E M dX10_withC_48 rfl rfl rfl rfl (by decide) (by decide)
      · refine z_if_eqF (tgt := 47) E dX10_withC_27 rfl (zb_nf c40) ?_
        refine z_aload_n E 0 dX10_withC_30 rfl ?_
        refine z_bipush E dX10_withC_31 bp_62 ?_
        refine z_iload_n E 1 dX10_withC_33 rfl ?_
        refine z_iconst E dX10_withC_34 ic_1 ?_
        refine z_iadd E dX10_withC_35 ?_
        refine z_iconst E dX10_withC_36 ic_1 ?_
        obtain ⟨_, e41, e⟩ := ob e
        obtain ⟨p42, e43, e⟩ := ob e
        refine z_kR2 (st := []) (av := [.ref a0, .int (62 : Int32), .int (a1 + (1 : Int32)), .int (1 : Int32)]) E 0 0 (z_rV (st := []) (av := [.int (62 : Int32), .int (a1 + (1 : Int32)), .int (1 : Int32)]) E Y_X10_figures k_X10_206 (ci := 12) rfl (c_X10_figures (z_El E) e43) dX10_withC_37 e41 rfl rfl (by decide) (by decide) (by decide) (by decide) (Nat.zero_le _)) rfl rfl rfl ?_
        rcases oi e with ⟨c44, e⟩ | ⟨c44, e⟩
        · refine z_if_eqT (tgt := 47) E dX10_withC_40 rfl (zb_f c44) ?_
          refine z_iconst E dX10_withC_47 ic_0 ?_
          obtain rfl := Option.some.inj e
          exact z_iret E M dX10_withC_48 rfl rfl rfl rfl (by decide) (by decide)
        · refine z_if_eqF (tgt := 47) E dX10_withC_40 rfl (zb_nf c44) ?_
          refine z_iconst E dX10_withC_43 ic_1 ?_
          refine z_goto (tgt := 48) E dX10_withC_44 rfl ?_
          obtain rfl := Option.some.inj e
          exact z_iret E M dX10_withC_48 rfl rfl rfl rfl (by decide) (by decide)
theorem c_X10_withC {l : Launch} (hl : l.stackTraces = false) {h : PH} {a0 : Nat} {a1 : Int32} {r : (Bool × PH)} (e : f_X10_withC h a0 a1 = some r) : CMet l yX10_withC (z_W yX10_withC cX10_withC 2 (some .boolean)) rmX10_withC h [.ref a0, .int a1] (.inr (some (.int (zb r.1)))) r.2 :=
  z_met hl Y_X10_withC (by decide +kernel) (Nat.le_of_ble_eq_true rfl) (fun X hX E T0 M => b_X10_withC E T0 e M)
abbrev rmX10_commandHere : Room := { frames := 13, cells := 0, slots := 0, locals := 247 }
noncomputable def f_X10_commandHere (h : PH) (a0 : Nat) : Option (Bool × PH) :=
  (rdI h a0 12 19).bind fun x1 =>
  (gd h a0 12).bind fun _ =>
  (f_X10_skips h a0 (99 : Int32)).bind fun p4 =>
  if p4.1 = false then
    (gd p4.2 a0 12).bind fun _ =>
    (f_X10_skips p4.2 a0 (100 : Int32)).bind fun p8 =>
    if p8.1 = false then
      (gd p8.2 a0 12).bind fun _ =>
      (f_X10_skips p8.2 a0 (104 : Int32)).bind fun p12 =>
      if p12.1 = false then
        (gd p12.2 a0 12).bind fun _ =>
        (f_X10_skips p12.2 a0 (113 : Int32)).bind fun p16 =>
        if p16.1 = false then
          (gd p16.2 a0 12).bind fun _ =>
          (f_X10_skips p16.2 a0 (102 : Int32)).bind fun p20 =>
          if p20.1 = false then
            (gd p20.2 a0 12).bind fun _ =>
            (f_X10_skips p20.2 a0 (119 : Int32)).bind fun p24 =>
            if p24.1 = false then
              (gd p24.2 a0 12).bind fun _ =>
              (f_X10_skips p24.2 a0 (108 : Int32)).bind fun p28 =>
              if p28.1 = false then
                (gd p28.2 a0 12).bind fun _ =>
                (f_X10_skips p28.2 a0 (110 : Int32)).bind fun p32 =>
                if p32.1 = true then
                  (gd p32.2 a0 12).bind fun _ =>
                  (f_X10_skips p32.2 a0 (111 : Int32)).bind fun p36 =>
                  if p36.1 = false then
                    (gd p36.2 a0 12).bind fun _ =>
                    (f_X10_isWord p36.2 a0 (4 : Int32) 82).bind fun p40 =>
                    if p40.1 = false then
                      some (false, p40.2)
                    else
                      (gd p40.2 a0 12).bind fun _ =>
                      (f_X10_figures p40.2 a0 (32 : Int32) (((4 : Int32) * x1) + (1 : Int32)) (2 : Int32)).bind fun p44 =>
                      if p44.1 = false then
                        some (false, p44.2)
                      else
                        (gd p44.2 a0 12).bind fun _ =>
                        (f_X10_figures p44.2 a0 (43 : Int32) ((((4 : Int32) * x1) + (1 : Int32)) + (1 : Int32)) (2 : Int32)).bind fun p48 =>
                        if p48.1 = false then
                          some (false, p48.2)
                        else
                          (gd p48.2 a0 12).bind fun _ =>
                          (f_X10_figures p48.2 a0 (32 : Int32) ((((4 : Int32) * x1) + (1 : Int32)) + (2 : Int32)) (2 : Int32)).bind fun p52 =>
                          if p52.1 = false then
                            some (false, p52.2)
                          else
                            some (true, p52.2)
                  else
                    (gd p36.2 a0 12).bind fun _ =>
                    (f_X10_isWord p36.2 a0 (0 : Int32) 62).bind fun p56 =>
                    if p56.1 = false then
                      some (false, p56.2)
                    else
                      (gd p56.2 a0 12).bind fun _ =>
                      (f_X10_figures p56.2 a0 (32 : Int32) (((4 : Int32) * x1) + (1 : Int32)) (2 : Int32)).bind fun p60 =>
                      if p60.1 = false then
                        some (false, p60.2)
                      else
                        (gd p60.2 a0 12).bind fun _ =>
                        (f_X10_figures p60.2 a0 (32 : Int32) ((((4 : Int32) * x1) + (1 : Int32)) + (1 : Int32)) (2 : Int32)).bind fun p64 =>
                        if p64.1 = false then
                          some (false, p64.2)
                        else
                          some (true, p64.2)
                else
                  some (false, p32.2)
              else
                (gd p28.2 a0 12).bind fun _ =>
                (f_X10_skips p28.2 a0 (97 : Int32)).bind fun p68 =>
                if p68.1 = false then
                  (gd p68.2 a0 12).bind fun _ =>
                  (f_X10_isWord p68.2 a0 (10 : Int32) 80).bind fun p72 =>
                  some (p72.1, p72.2)
                else
                  (gd p68.2 a0 12).bind fun _ =>
                  (f_X10_isWord p68.2 a0 (8 : Int32) 78).bind fun p75 =>
                  some (p75.1, p75.2)
            else
              (gd p24.2 a0 12).bind fun _ =>
              (f_X10_isWord p24.2 a0 (11 : Int32) 76).bind fun p78 =>
              if p78.1 = false then
                some (false, p78.2)
              else
                (gd p78.2 a0 12).bind fun _ =>
                (f_X10_figures p78.2 a0 (32 : Int32) (((4 : Int32) * x1) + (1 : Int32)) (2 : Int32)).bind fun p82 =>
                if p82.1 = false then
                  some (false, p82.2)
                else
                  some (true, p82.2)
          else
            (gd p20.2 a0 12).bind fun _ =>
            (f_X10_isWord p20.2 a0 (9 : Int32) 74).bind fun p86 =>
            if p86.1 = false then
              some (false, p86.2)
            else
              (gd p86.2 a0 12).bind fun _ =>
              (f_X10_figures p86.2 a0 (32 : Int32) (((4 : Int32) * x1) + (1 : Int32)) (1 : Int32)).bind fun p90 =>
              if p90.1 = false then
                some (false, p90.2)
              else
                some (true, p90.2)
        else
          (gd p16.2 a0 12).bind fun _ =>
          (f_X10_isWord p16.2 a0 (7 : Int32) 72).bind fun p94 =>
          if p94.1 = false then
            some (false, p94.2)
          else
            (gd p94.2 a0 12).bind fun _ =>
            (f_X10_figures p94.2 a0 (32 : Int32) (((4 : Int32) * x1) + (1 : Int32)) (2 : Int32)).bind fun p98 =>
            if p98.1 = false then
              some (false, p98.2)
            else
              (gd p98.2 a0 12).bind fun _ =>
              (f_X10_figures p98.2 a0 (61 : Int32) ((((4 : Int32) * x1) + (1 : Int32)) + (1 : Int32)) (2 : Int32)).bind fun p102 =>
              if p102.1 = false then
                some (false, p102.2)
              else
                some (true, p102.2)
      else
        (gd p12.2 a0 12).bind fun _ =>
        (f_X10_isWord p12.2 a0 (6 : Int32) 70).bind fun p106 =>
        if p106.1 = false then
          some (false, p106.2)
        else
          (gd p106.2 a0 12).bind fun _ =>
          (f_X10_figures p106.2 a0 (32 : Int32) (((4 : Int32) * x1) + (1 : Int32)) (1 : Int32)).bind fun p110 =>
          if p110.1 = false then
            some (false, p110.2)
          else
            some (true, p110.2)
    else
      (gd p8.2 a0 12).bind fun _ =>
      (f_X10_isWord p8.2 a0 (2 : Int32) 68).bind fun p114 =>
      if p114.1 = false then
        some (false, p114.2)
      else
        (gd p114.2 a0 12).bind fun _ =>
        (f_X10_figures p114.2 a0 (32 : Int32) (((4 : Int32) * x1) + (1 : Int32)) (1 : Int32)).bind fun p118 =>
        if p118.1 = false then
          some (false, p118.2)
        else
          (gd p118.2 a0 12).bind fun _ =>
          (f_X10_figures p118.2 a0 (62 : Int32) ((((4 : Int32) * x1) + (1 : Int32)) + (1 : Int32)) (1 : Int32)).bind fun p122 =>
          if p122.1 = false then
            some (false, p122.2)
          else
            some (true, p122.2)
  else
    (gd p4.2 a0 12).bind fun _ =>
    (f_X10_withC p4.2 a0 (((4 : Int32) * x1) + (1 : Int32))).bind fun p126 =>
    some (p126.1, p126.2)
theorem b_X10_commandHere {X : PX} (E : z_E X cX10_commandHere RX10 "commandHere" 2 rmX10_commandHere (some .boolean)) (T0 : z_T0 X) {h : PH} {a0 : Nat} {r : (Bool × PH)} (e : f_X10_commandHere h a0 = some r) (M : z_M X rmX10_commandHere.cells rmX10_commandHere.slots (.inr (some (.int (zb r.1)))) r.2) : WP X 2 0 0 0 [(0, .ref a0)] [] h := by
  unfold f_X10_commandHere at e
  refine z_iconst E dX10_commandHere_0 ic_4 ?_
  refine z_aload_n E 0 dX10_commandHere_1 rfl ?_
  obtain ⟨x1, e2, e⟩ := ob e
  refine z_getI E fl_X10_184 dX10_commandHere_2 e2 ?_
  refine z_imul E dX10_commandHere_5 ?_
  refine z_iconst E dX10_commandHere_6 ic_1 ?_
  refine z_iadd E dX10_commandHere_7 ?_
  refine z_istore_n (lv2 := [(1, .int (((4 : Int32) * x1) + (1 : Int32))), (0, .ref a0)]) E dX10_commandHere_8 (by decide) rfl ?_
  refine z_aload_n E 1 dX10_commandHere_9 rfl ?_
  refine z_bipush E dX10_commandHere_10 bp_99 ?_
  obtain ⟨_, e3, e⟩ := ob e
  obtain ⟨p4, e5, e⟩ := ob e
  refine z_kR2 (st := []) (av := [.ref a0, .int (99 : Int32)]) E 0 0 (z_rV (st := []) (av := [.int (99 : Int32)]) E Y_X10_skips k_X10_194 (ci := 12) rfl (c_X10_skips (z_El E) e5) dX10_commandHere_12 e3 rfl rfl (by decide) (by decide) (by decide) (by decide) (Nat.zero_le _)) rfl rfl rfl ?_
  rcases oi e with ⟨c6, e⟩ | ⟨c6, e⟩
  · refine z_if_eqT (tgt := 24) E dX10_commandHere_15 rfl (zb_f c6) ?_
    refine z_aload_n E 1 dX10_commandHere_24 rfl ?_
    refine z_bipush E dX10_commandHere_25 bp_100 ?_
    obtain ⟨_, e7, e⟩ := ob e
    obtain ⟨p8, e9, e⟩ := ob e
    refine z_kR2 (st := []) (av := [.ref a0, .int (100 : Int32)]) E 0 0 (z_rV (st := []) (av := [.int (100 : Int32)]) E Y_X10_skips k_X10_194 (ci := 12) rfl (c_X10_skips (z_El E) e9) dX10_commandHere_27 e7 rfl rfl (by decide) (by decide) (by decide) (by decide) (Nat.zero_le _)) rfl rfl rfl ?_
    rcases oi e with ⟨c10, e⟩ | ⟨c10, e⟩
    · refine z_if_eqT (tgt := 73) E dX10_commandHere_30 rfl (zb_f c10) ?_
      refine z_aload_n E 1 dX10_commandHere_73 rfl ?_
      refine z_bipush E dX10_commandHere_74 bp_104 ?_
      obtain ⟨_, e11, e⟩ := ob e
      obtain ⟨p12, e13, e⟩ := ob e
      refine z_kR2 (st := []) (av := [.ref a0, .int (104 : Int32)]) E 0 0 (z_rV (st := []) (av := [.int (104 : Int32)]) E Y_X10_skips k_X10_194 (ci := 12) rfl (c_X10_skips (z_El E) e13) dX10_commandHere_76 e11 rfl rfl (by decide) (by decide) (by decide) (by decide) (Nat.zero_le _)) rfl rfl rfl ?_
      rcases oi e with ⟨c14, e⟩ | ⟨c14, e⟩
      · refine z_if_eqT (tgt := 110) E dX10_commandHere_79 rfl (zb_f c14) ?_
        refine z_aload_n E 1 dX10_commandHere_110 rfl ?_
        refine z_bipush E dX10_commandHere_111 bp_113 ?_
        obtain ⟨_, e15, e⟩ := ob e
        obtain ⟨p16, e17, e⟩ := ob e
        refine z_kR2 (st := []) (av := [.ref a0, .int (113 : Int32)]) E 0 0 (z_rV (st := []) (av := [.int (113 : Int32)]) E Y_X10_skips k_X10_194 (ci := 12) rfl (c_X10_skips (z_El E) e17) dX10_commandHere_113 e15 rfl rfl (by decide) (by decide) (by decide) (by decide) (Nat.zero_le _)) rfl rfl rfl ?_
        rcases oi e with ⟨c18, e⟩ | ⟨c18, e⟩
        · refine z_if_eqT (tgt := 160) E dX10_commandHere_116 rfl (zb_f c18) ?_
          refine z_aload_n E 1 dX10_commandHere_160 rfl ?_
          refine z_bipush E dX10_commandHere_161 bp_102 ?_
          obtain ⟨_, e19, e⟩ := ob e
          obtain ⟨p20, e21, e⟩ := ob e
          refine z_kR2 (st := []) (av := [.ref a0, .int (102 : Int32)]) E 0 0 (z_rV (st := []) (av := [.int (102 : Int32)]) E Y_X10_skips k_X10_194 (ci := 12) rfl (c_X10_skips (z_El E) e21) dX10_commandHere_163 e19 rfl rfl (by decide) (by decide) (by decide) (by decide) (Nat.zero_le _)) rfl rfl rfl ?_
          rcases oi e with ⟨c22, e⟩ | ⟨c22, e⟩
          · refine z_if_eqT (tgt := 197) E dX10_commandHere_166 rfl (zb_f c22) ?_
            refine z_aload_n E 1 dX10_commandHere_197 rfl ?_
            refine z_bipush E dX10_commandHere_198 bp_119 ?_
            obtain ⟨_, e23, e⟩ := ob e
            obtain ⟨p24, e25, e⟩ := ob e
            refine z_kR2 (st := []) (av := [.ref a0, .int (119 : Int32)]) E 0 0 (z_rV (st := []) (av := [.int (119 : Int32)]) E Y_X10_skips k_X10_194 (ci := 12) rfl (c_X10_skips (z_El E) e25) dX10_commandHere_200 e23 rfl rfl (by decide) (by decide) (by decide) (by decide) (Nat.zero_le _)) rfl rfl rfl ?_
            rcases oi e with ⟨c26, e⟩ | ⟨c26, e⟩
            · refine z_if_eqT (tgt := 234) E dX10_commandHere_203 rfl (zb_f c26) ?_
              refine z_aload_n E 1 dX10_commandHere_234 rfl ?_
              refine z_bipush E dX10_commandHere_235 bp_108 ?_
              obtain ⟨_, e27, e⟩ := ob e
              obtain ⟨p28, e29, e⟩ := ob e
              refine z_kR2 (st := []) (av := [.ref a0, .int (108 : Int32)]) E 0 0 (z_rV (st := []) (av := [.int (108 : Int32)]) E Y_X10_skips k_X10_194 (ci := 12) rfl (c_X10_skips (z_El E) e29) dX10_commandHere_237 e27 rfl rfl (by decide) (by decide) (by decide) (by decide) (Nat.zero_le _)) rfl rfl rfl ?_
              rcases oi e with ⟨c30, e⟩ | ⟨c30, e⟩
              · refine z_if_eqT (tgt := 272) E dX10_commandHere_240 rfl (zb_f c30) ?_
                refine z_aload_n E 1 dX10_commandHere_272 rfl ?_
                refine z_bipush E dX10_commandHere_273 bp_110 ?_
                obtain ⟨_, e31, e⟩ := ob e
                obtain ⟨p32, e33, e⟩ := ob e
                refine z_kR2 (st := []) (av := [.ref a0, .int (110 : Int32)]) E 0 0 (z_rV (st := []) (av := [.int (110 : Int32)]) E Y_X10_skips k_X10_194 (ci := 12) rfl (c_X10_skips (z_El E) e33) dX10_commandHere_275 e31 rfl rfl (by decide) (by decide) (by decide) (by decide) (Nat.zero_le _)) rfl rfl rfl ?_
                rcases oi e with ⟨c34, e⟩ | ⟨c34, e⟩
                · refine z_if_neT (tgt := 283) E dX10_commandHere_278 rfl (zb_t c34) ?_
                  refine z_aload_n E 1 dX10_commandHere_283 rfl ?_
                  refine z_bipush E dX10_commandHere_284 bp_111 ?_
                  obtain ⟨_, e35, e⟩ := ob e
                  obtain ⟨p36, e37, e⟩ := ob e
                  refine z_kR2 (st := []) (av := [.ref a0, .int (111 : Int32)]) E 0 0 (z_rV (st := []) (av := [.int (111 : Int32)]) E Y_X10_skips k_X10_194 (ci := 12) rfl (c_X10_skips (z_El E) e37) dX10_commandHere_286 e35 rfl rfl (by decide) (by decide) (by decide) (by decide) (Nat.zero_le _)) rfl rfl rfl ?_
                  rcases oi e with ⟨c38, e⟩ | ⟨c38, e⟩
                  · refine z_if_eqT (tgt := 332) E dX10_commandHere_289 rfl (zb_f c38) ?_
                    refine z_aload_n E 1 dX10_commandHere_332 rfl ?_
                    refine z_iconst E dX10_commandHere_333 ic_4 ?_
                    refine z_ldcS E ks_X10_233 dX10_commandHere_334 ?_
                    obtain ⟨_, e39, e⟩ := ob e
                    obtain ⟨p40, e41, e⟩ := ob e
                    refine z_kR2 (st := []) (av := [.ref a0, .int (4 : Int32), .ref 82]) E 0 0 (z_rV (st := []) (av := [.int (4 : Int32), .ref 82]) E Y_X10_isWord k_X10_202 (ci := 12) rfl (c_X10_isWord (z_El E) e41) dX10_commandHere_336 e39 rfl rfl (by decide) (by decide) (by decide) (by decide) (Nat.zero_le _)) rfl rfl rfl ?_
                    rcases oi e with ⟨c42, e⟩ | ⟨c42, e⟩
                    · refine z_if_eqT (tgt := 383) E dX10_commandHere_339 rfl (zb_f c42) ?_
                      refine z_iconst E dX10_commandHere_383 ic_0 ?_
                      obtain rfl := Option.some.inj e
                      exact z_iret E M dX10_commandHere_384 rfl rfl rfl rfl (by decide) (by decide)
                    · refine z_if_eqF (tgt := 383) E dX10_commandHere_339 rfl (zb_nf c42) ?_
                      refine z_aload_n E 1 dX10_commandHere_342 rfl ?_
                      refine z_bipush E dX10_commandHere_343 bp_32 ?_
                      refine z_iload_n E 0 dX10_commandHere_345 rfl ?_
                      refine z_iconst E dX10_commandHere_346 ic_2 ?_
                      obtain ⟨_, e43, e⟩ := ob e
                      obtain ⟨p44, e45, e⟩ := ob e
                      refine z_kR2 (st := []) (av := [.ref a0, .int (32 : Int32), .int (((4 : Int32) * x1) + (1 : Int32)), .int (2 : Int32)]) E 0 0 (z_rV (st := []) (av := [.int (32 : Int32), .int (((4 : Int32) * x1) + (1 : Int32)), .int (2 : Int32)]) E Y_X10_figures k_X10_206 (ci := 12) rfl (c_X10_figures (z_El E) e45) dX10_commandHere_347 e43 rfl rfl (by decide) (by decide) (by decide) (by decide) (Nat.zero_le _)) rfl rfl rfl ?_
                      rcases oi e with ⟨c46, e⟩ | ⟨c46, e⟩
                      · refine z_if_eqT (tgt := 383) E dX10_commandHere_350 rfl (zb_f c46) ?_
                        refine z_iconst E dX10_commandHere_383 ic_0 ?_
                        obtain rfl := Option.some.inj e
                        exact z_iret E M dX10_commandHere_384 rfl rfl rfl rfl (by decide) (by decide)
                      · refine z_if_eqF (tgt := 383) E dX10_commandHere_350 rfl (zb_nf c46) ?_
                        refine z_aload_n E 1 dX10_commandHere_353 rfl ?_
                        refine z_bipush E dX10_commandHere_354 bp_43 ?_
                        refine z_iload_n E 0 dX10_commandHere_356 rfl ?_
                        refine z_iconst E dX10_commandHere_357 ic_1 ?_
                        refine z_iadd E dX10_commandHere_358 ?_
                        refine z_iconst E dX10_commandHere_359 ic_2 ?_
                        obtain ⟨_, e47, e⟩ := ob e
                        obtain ⟨p48, e49, e⟩ := ob e
                        refine z_kR2 (st := []) (av := [.ref a0, .int (43 : Int32), .int ((((4 : Int32) * x1) + (1 : Int32)) + (1 : Int32)), .int (2 : Int32)]) E 0 0 (z_rV (st := []) (av := [.int (43 : Int32), .int ((((4 : Int32) * x1) + (1 : Int32)) + (1 : Int32)), .int (2 : Int32)]) E Y_X10_figures k_X10_206 (ci := 12) rfl (c_X10_figures (z_El E) e49) dX10_commandHere_360 e47 rfl rfl (by decide) (by decide) (by decide) (by decide) (Nat.zero_le _)) rfl rfl rfl ?_
                        rcases oi e with ⟨c50, e⟩ | ⟨c50, e⟩
                        · refine z_if_eqT (tgt := 383) E dX10_commandHere_363 rfl (zb_f c50) ?_
                          refine z_iconst E dX10_commandHere_383 ic_0 ?_
                          obtain rfl := Option.some.inj e
                          exact z_iret E M dX10_commandHere_384 rfl rfl rfl rfl (by decide) (by decide)
                        · refine z_if_eqF (tgt := 383) E dX10_commandHere_363 rfl (zb_nf c50) ?_
                          refine z_aload_n E 1 dX10_commandHere_366 rfl ?_
                          refine z_bipush E dX10_commandHere_367 bp_32 ?_
                          refine z_iload_n E 0 dX10_commandHere_369 rfl ?_
                          refine z_iconst E dX10_commandHere_370 ic_2 ?_
                          refine z_iadd E dX10_commandHere_371 ?_
                          refine z_iconst E dX10_commandHere_372 ic_2 ?_
                          obtain ⟨_, e51, e⟩ := ob e
                          obtain ⟨p52, e53, e⟩ := ob e
                          refine z_kR2 (st := []) (av := [.ref a0, .int (32 : Int32), .int ((((4 : Int32) * x1) + (1 : Int32)) + (2 : Int32)), .int (2 : Int32)]) E 0 0 (z_rV (st := []) (av := [.int (32 : Int32), .int ((((4 : Int32) * x1) + (1 : Int32)) + (2 : Int32)), .int (2 : Int32)]) E Y_X10_figures k_X10_206 (ci := 12) rfl (c_X10_figures (z_El E) e53) dX10_commandHere_373 e51 rfl rfl (by decide) (by decide) (by decide) (by decide) (Nat.zero_le _)) rfl rfl rfl ?_
                          rcases oi e with ⟨c54, e⟩ | ⟨c54, e⟩
                          · refine z_if_eqT (tgt := 383) E dX10_commandHere_376 rfl (zb_f c54) ?_
                            refine z_iconst E dX10_commandHere_383 ic_0 ?_
                            obtain rfl := Option.some.inj e
                            exact z_iret E M dX10_commandHere_384 rfl rfl rfl rfl (by decide) (by decide)
                          · refine z_if_eqF (tgt := 383) E dX10_commandHere_376 rfl (zb_nf c54) ?_
                            refine z_iconst E dX10_commandHere_379 ic_1 ?_
                            refine z_goto (tgt := 384) E dX10_commandHere_380 rfl ?_
                            obtain rfl := Option.some.inj e
                            exact z_iret E M dX10_commandHere_384 rfl rfl rfl rfl (by decide) (by decide)
                  · refine z_if_eqF (tgt := 332) E dX10_commandHere_289 rfl (zb_nf c38) ?_
                    refine z_aload_n E 1 dX10_commandHere_292 rfl ?_
                    refine z_iconst E dX10_commandHere_293 ic_0 ?_
                    refine z_ldcS E ks_X10_200 dX10_commandHere_294 ?_
                    obtain ⟨_, e55, e⟩ := ob e
                    obtain ⟨p56, e57, e⟩ := ob e
                    refine z_kR2 (st := []) (av := [.ref a0, .int (0 : Int32), .ref 62]) E 0 0 (z_rV (st := []) (av := [.int (0 : Int32), .ref 62]) E Y_X10_isWord k_X10_202 (ci := 12) rfl (c_X10_isWord (z_El E) e57) dX10_commandHere_296 e55 rfl rfl (by decide) (by decide) (by decide) (by decide) (Nat.zero_le _)) rfl rfl rfl ?_
                    rcases oi e with ⟨c58, e⟩ | ⟨c58, e⟩
                    · refine z_if_eqT (tgt := 330) E dX10_commandHere_299 rfl (zb_f c58) ?_
                      refine z_iconst E dX10_commandHere_330 ic_0 ?_
                      obtain rfl := Option.some.inj e
                      exact z_iret E M dX10_commandHere_331 rfl rfl rfl rfl (by decide) (by decide)
                    · refine z_if_eqF (tgt := 330) E dX10_commandHere_299 rfl (zb_nf c58) ?_
                      refine z_aload_n E 1 dX10_commandHere_302 rfl ?_
                      refine z_bipush E dX10_commandHere_303 bp_32 ?_
                      refine z_iload_n E 0 dX10_commandHere_305 rfl ?_
                      refine z_iconst E dX10_commandHere_306 ic_2 ?_
                      obtain ⟨_, e59, e⟩ := ob e
                      obtain ⟨p60, e61, e⟩ := ob e
                      refine z_kR2 (st := []) (av := [.ref a0, .int (32 : Int32), .int (((4 : Int32) * x1) + (1 : Int32)), .int (2 : Int32)]) E 0 0 (z_rV (st := []) (av := [.int (32 : Int32), .int (((4 : Int32) * x1) + (1 : Int32)), .int (2 : Int32)]) E Y_X10_figures k_X10_206 (ci := 12) rfl (c_X10_figures (z_El E) e61) dX10_commandHere_307 e59 rfl rfl (by decide) (by decide) (by decide) (by decide) (Nat.zero_le _)) rfl rfl rfl ?_
                      rcases oi e with ⟨c62, e⟩ | ⟨c62, e⟩
                      · refine z_if_eqT (tgt := 330) E dX10_commandHere_310 rfl (zb_f c62) ?_
                        refine z_iconst E dX10_commandHere_330 ic_0 ?_
                        obtain rfl := Option.some.inj e
                        exact z_iret E M dX10_commandHere_331 rfl rfl rfl rfl (by decide) (by decide)
                      · refine z_if_eqF (tgt := 330) E dX10_commandHere_310 rfl (zb_nf c62) ?_
                        refine z_aload_n E 1 dX10_commandHere_313 rfl ?_
                        refine z_bipush E dX10_commandHere_314 bp_32 ?_
                        refine z_iload_n E 0 dX10_commandHere_316 rfl ?_
                        refine z_iconst E dX10_commandHere_317 ic_1 ?_
                        refine z_iadd E dX10_commandHere_318 ?_
                        refine z_iconst E dX10_commandHere_319 ic_2 ?_
                        obtain ⟨_, e63, e⟩ := ob e
                        obtain ⟨p64, e65, e⟩ := ob e
                        refine z_kR2 (st := []) (av := [.ref a0, .int (32 : Int32), .int ((((4 : Int32) * x1) + (1 : Int32)) + (1 : Int32)), .int (2 : Int32)]) E 0 0 (z_rV (st := []) (av := [.int (32 : Int32), .int ((((4 : Int32) * x1) + (1 : Int32)) + (1 : Int32)), .int (2 : Int32)]) E Y_X10_figures k_X10_206 (ci := 12) rfl (c_X10_figures (z_El E) e65) dX10_commandHere_320 e63 rfl rfl (by decide) (by decide) (by decide) (by decide) (Nat.zero_le _)) rfl rfl rfl ?_
                        rcases oi e with ⟨c66, e⟩ | ⟨c66, e⟩
                        · refine z_if_eqT (tgt := 330) E dX10_commandHere_323 rfl (zb_f c66) ?_
                          refine z_iconst E dX10_commandHere_330 ic_0 ?_
                          obtain rfl := Option.some.inj e
                          exact z_iret E M dX10_commandHere_331 rfl rfl rfl rfl (by decide) (by decide)
                        · refine z_if_eqF (tgt := 330) E dX10_commandHere_323 rfl (zb_nf c66) ?_
                          refine z_iconst E dX10_commandHere_326 ic_1 ?_
                          refine z_goto (tgt := 331) E dX10_commandHere_327 rfl ?_
                          obtain rfl := Option.some.inj e
                          exact z_iret E M dX10_commandHere_331 rfl rfl rfl rfl (by decide) (by decide)
                · refine z_if_neF (tgt := 283) E dX10_commandHere_278 rfl (zb_nt c34) ?_
                  refine z_iconst E dX10_commandHere_281 ic_0 ?_
                  obtain rfl := Option.some.inj e
                  exact z_iret E M dX10_commandHere_282 rfl rfl rfl rfl (by decide) (by decide)
              · refine z_if_eqF (tgt := 272) E dX10_commandHere_240 rfl (zb_nf c30) ?_
                refine z_aload_n E 1 dX10_commandHere_243 rfl ?_
                refine z_bipush E dX10_commandHere_244 bp_97 ?_
                obtain ⟨_, e67, e⟩ := ob e
                obtain ⟨p68, e69, e⟩ := ob e
                refine z_kR2 (st := []) (av := [.ref a0, .int (97 : Int32)]) E 0 0 (z_rV (st := []) (av := [.int (97 : Int32)]) E Y_X10_skips k_X10_194 (ci := 12) rfl (c_X10_skips (z_El E) e69) dX10_commandHere_246 e67 rfl rfl (by decide) (by decide) (by decide) (by decide) (Nat.zero_le _)) rfl rfl rfl ?_
                rcases oi e with ⟨c70, e⟩ | ⟨c70, e⟩
                · refine z_if_eqT (tgt := 263) E dX10_commandHere_249 rfl (zb_f c70) ?_
                  refine z_aload_n E 1 dX10_commandHere_263 rfl ?_
                  refine z_bipush E dX10_commandHere_264 bp_10 ?_
                  refine z_ldcS E ks_X10_231 dX10_commandHere_266 ?_
                  obtain ⟨_, e71, e⟩ := ob e
                  obtain ⟨p72, e73, e⟩ := ob e
                  refine z_kR2 (st := []) (av := [.ref a0, .int (10 : Int32), .ref 80]) E 0 0 (z_rV (st := []) (av := [.int (10 : Int32), .ref 80]) E Y_X10_isWord k_X10_202 (ci := 12) rfl (c_X10_isWord (z_El E) e73) dX10_commandHere_268 e71 rfl rfl (by decide) (by decide) (by decide) (by decide) (Nat.zero_le _)) rfl rfl rfl ?_
                  obtain rfl := Option.some.inj e
                  exact z_iret E M dX10_commandHere_271 rfl (zb_nar _) rfl rfl (by decide) (by decide)
                · refine z_if_eqF (tgt := 263) E dX10_commandHere_249 rfl (zb_nf c70) ?_
                  refine z_aload_n E 1 dX10_commandHere_252 rfl ?_
                  refine z_bipush E dX10_commandHere_253 bp_8 ?_
                  refine z_ldcS E ks_X10_229 dX10_commandHere_255 ?_
                  obtain ⟨_, e74, e⟩ := ob e
                  obtain ⟨p75, e76, e⟩ := ob e
                  refine z_kR2 (st := []) (av := [.ref a0, .int (8 : Int32), .ref 78]) E 0 0 (z_rV (st := []) (av := [.int (8 : Int32), .ref 78]) E Y_X10_isWord k_X10_202 (ci := 12) rfl (c_X10_isWord (z_El E) e76) dX10_commandHere_257 e74 rfl rfl (by decide) (by decide) (by decide) (by decide) (Nat.zero_le _)) rfl rfl rfl ?_
                  refine z_goto (tgt := 271) E dX10_commandHere_260 rfl ?_
                  obtain rfl := Option.some.inj e
                  exact z_iret E M dX10_commandHere_271 rfl (zb_nar _) rfl rfl (by decide) (by decide)
            · refine z_if_eqF (tgt := 234) E dX10_commandHere_203 rfl (zb_nf c26) ?_
              refine z_aload_n E 1 dX10_commandHere_206 rfl ?_
              refine z_bipush E dX10_commandHere_207 bp_11 ?_
              refine z_ldcS E ks_X10_227 dX10_commandHere_209 ?_
              obtain ⟨_, e77, e⟩ := ob e
              obtain ⟨p78, e79, e⟩ := ob e
              refine z_kR2 (st := []) (av := [.ref a0, .int (11 : Int32), .ref 76]) E 0 0 (z_rV (st := []) (av := [.int (11 : Int32), .ref 76]) E Y_X10_isWord k_X10_202 (ci := 12) rfl (c_X10_isWord (z_El E) e79) dX10_commandHere_211 e77 rfl rfl (by decide) (by decide) (by decide) (by decide) (Nat.zero_le _)) rfl rfl rfl ?_
              rcases oi e with ⟨c80, e⟩ | ⟨c80, e⟩
              · refine z_if_eqT (tgt := 232) E dX10_commandHere_214 rfl (zb_f c80) ?_
                refine z_iconst E dX10_commandHere_232 ic_0 ?_
                obtain rfl := Option.some.inj e
                exact z_iret E M dX10_commandHere_233 rfl rfl rfl rfl (by decide) (by decide)
              · refine z_if_eqF (tgt := 232) E dX10_commandHere_214 rfl (zb_nf c80) ?_
                refine z_aload_n E 1 dX10_commandHere_217 rfl ?_
                refine z_bipush E dX10_commandHere_218 bp_32 ?_
                refine z_iload_n E 0 dX10_commandHere_220 rfl ?_
                refine z_iconst E dX10_commandHere_221 ic_2 ?_
                obtain ⟨_, e81, e⟩ := ob e
                obtain ⟨p82, e83, e⟩ := ob e
                refine z_kR2 (st := []) (av := [.ref a0, .int (32 : Int32), .int (((4 : Int32) * x1) + (1 : Int32)), .int (2 : Int32)]) E 0 0 (z_rV (st := []) (av := [.int (32 : Int32), .int (((4 : Int32) * x1) + (1 : Int32)), .int (2 : Int32)]) E Y_X10_figures k_X10_206 (ci := 12) rfl (c_X10_figures (z_El E) e83) dX10_commandHere_222 e81 rfl rfl (by decide) (by decide) (by decide) (by decide) (Nat.zero_le _)) rfl rfl rfl ?_
                rcases oi e with ⟨c84, e⟩ | ⟨c84, e⟩
                · refine z_if_eqT (tgt := 232) E dX10_commandHere_225 rfl (zb_f c84) ?_
                  refine z_iconst E dX10_commandHere_232 ic_0 ?_
                  obtain rfl := Option.some.inj e
                  exact z_iret E M dX10_commandHere_233 rfl rfl rfl rfl (by decide) (by decide)
                · refine z_if_eqF (tgt := 232) E dX10_commandHere_225 rfl (zb_nf c84) ?_
                  refine z_iconst E dX10_commandHere_228 ic_1 ?_
                  refine z_goto (tgt := 233) E dX10_commandHere_229 rfl ?_
                  obtain rfl := Option.some.inj e
                  exact z_iret E M dX10_commandHere_233 rfl rfl rfl rfl (by decide) (by decide)
          · refine z_if_eqF (tgt := 197) E dX10_commandHere_166 rfl (zb_nf c22) ?_
            refine z_aload_n E 1 dX10_commandHere_169 rfl ?_
            refine z_bipush E dX10_commandHere_170 bp_9 ?_
            refine z_ldcS E ks_X10_225 dX10_commandHere_172 ?_
            obtain ⟨_, e85, e⟩ := ob e
            obtain ⟨p86, e87, e⟩ := ob e
            refine z_kR2 (st := []) (av := [.ref a0, .int (9 : Int32), .ref 74]) E 0 0 (z_rV (st := []) (av := [.int (9 : Int32), .ref 74]) E Y_X10_isWord k_X10_202 (ci := 12) rfl (c_X10_isWord (z_El E) e87) dX10_commandHere_174 e85 rfl rfl (by decide) (by decide) (by decide) (by decide) (Nat.zero_le _)) rfl rfl rfl ?_
            rcases oi e with ⟨c88, e⟩ | ⟨c88, e⟩
            · refine z_if_eqT (tgt := 195) E dX10_commandHere_177 rfl (zb_f c88) ?_
              refine z_iconst E dX10_commandHere_195 ic_0 ?_
              obtain rfl := Option.some.inj e
              exact z_iret E M dX10_commandHere_196 rfl rfl rfl rfl (by decide) (by decide)
            · refine z_if_eqF (tgt := 195) E dX10_commandHere_177 rfl (zb_nf c88) ?_
              refine z_aload_n E 1 dX10_commandHere_180 rfl ?_
              refine z_bipush E dX10_commandHere_181 bp_32 ?_
              refine z_iload_n E 0 dX10_commandHere_183 rfl ?_
              refine z_iconst E dX10_commandHere_184 ic_1 ?_
              obtain ⟨_, e89, e⟩ := ob e
              obtain ⟨p90, e91, e⟩ := ob e
              refine z_kR2 (st := []) (av := [.ref a0, .int (32 : Int32), .int (((4 : Int32) * x1) + (1 : Int32)), .int (1 : Int32)]) E 0 0 (z_rV (st := []) (av := [.int (32 : Int32), .int (((4 : Int32) * x1) + (1 : Int32)), .int (1 : Int32)]) E Y_X10_figures k_X10_206 (ci := 12) rfl (c_X10_figures (z_El E) e91) dX10_commandHere_185 e89 rfl rfl (by decide) (by decide) (by decide) (by decide) (Nat.zero_le _)) rfl rfl rfl ?_
              rcases oi e with ⟨c92, e⟩ | ⟨c92, e⟩
              · refine z_if_eqT (tgt := 195) E dX10_commandHere_188 rfl (zb_f c92) ?_
                refine z_iconst E dX10_commandHere_195 ic_0 ?_
                obtain rfl := Option.some.inj e
                exact z_iret E M dX10_commandHere_196 rfl rfl rfl rfl (by decide) (by decide)
              · refine z_if_eqF (tgt := 195) E dX10_commandHere_188 rfl (zb_nf c92) ?_
                refine z_iconst E dX10_commandHere_191 ic_1 ?_
                refine z_goto (tgt := 196) E dX10_commandHere_192 rfl ?_
                obtain rfl := Option.some.inj e
                exact z_iret E M dX10_commandHere_196 rfl rfl rfl rfl (by decide) (by decide)
        · refine z_if_eqF (tgt := 160) E dX10_commandHere_116 rfl (zb_nf c18) ?_
          refine z_aload_n E 1 dX10_commandHere_119 rfl ?_
          refine z_bipush E dX10_commandHere_120 bp_7 ?_
          refine z_ldcS E ks_X10_223 dX10_commandHere_122 ?_
          obtain ⟨_, e93, e⟩ := ob e
          obtain ⟨p94, e95, e⟩ := ob e
          refine z_kR2 (st := []) (av := [.ref a0, .int (7 : Int32), .ref 72]) E 0 0 (z_rV (st := []) (av := [.int (7 : Int32), .ref 72]) E Y_X10_isWord k_X10_202 (ci := 12) rfl (c_X10_isWord (z_El E) e95) dX10_commandHere_124 e93 rfl rfl (by decide) (by decide) (by decide) (by decide) (Nat.zero_le _)) rfl rfl rfl ?_
          rcases oi e with ⟨c96, e⟩ | ⟨c96, e⟩
          · refine z_if_eqT (tgt := 158) E dX10_commandHere_127 rfl (zb_f c96) ?_
            refine z_iconst E dX10_commandHere_158 ic_0 ?_
            obtain rfl := Option.some.inj e
            exact z_iret E M dX10_commandHere_159 rfl rfl rfl rfl (by decide) (by decide)
          · refine z_if_eqF (tgt := 158) E dX10_commandHere_127 rfl (zb_nf c96) ?_
            refine z_aload_n E 1 dX10_commandHere_130 rfl ?_
            refine z_bipush E dX10_commandHere_131 bp_32 ?_
            refine z_iload_n E 0 dX10_commandHere_133 rfl ?_
            refine z_iconst E dX10_commandHere_134 ic_2 ?_
            obtain ⟨_, e97, e⟩ := ob e
            obtain ⟨p98, e99, e⟩ := ob e
            refine z_kR2 (st := []) (av := [.ref a0, .int (32 : Int32), .int (((4 : Int32) * x1) + (1 : Int32)), .int (2 : Int32)]) E 0 0 (z_rV (st := []) (av := [.int (32 : Int32), .int (((4 : Int32) * x1) + (1 : Int32)), .int (2 : Int32)]) E Y_X10_figures k_X10_206 (ci := 12) rfl (c_X10_figures (z_El E) e99) dX10_commandHere_135 e97 rfl rfl (by decide) (by decide) (by decide) (by decide) (Nat.zero_le _)) rfl rfl rfl ?_
            rcases oi e with ⟨c100, e⟩ | ⟨c100, e⟩
            · refine z_if_eqT (tgt := 158) E dX10_commandHere_138 rfl (zb_f c100) ?_
              refine z_iconst E dX10_commandHere_158 ic_0 ?_
              obtain rfl := Option.some.inj e
              exact z_iret E M dX10_commandHere_159 rfl rfl rfl rfl (by decide) (by decide)
            · refine z_if_eqF (tgt := 158) E dX10_commandHere_138 rfl (zb_nf c100) ?_
              refine z_aload_n E 1 dX10_commandHere_141 rfl ?_
              refine z_bipush E dX10_commandHere_142 bp_61 ?_
              refine z_iload_n E 0 dX10_commandHere_144 rfl ?_
              refine z_iconst E dX10_commandHere_145 ic_1 ?_
              refine z_iadd E dX10_commandHere_146 ?_
              refine z_iconst E dX10_commandHere_147 ic_2 ?_
              obtain ⟨_, e101, e⟩ := ob e
              obtain ⟨p102, e103, e⟩ := ob e
              refine z_kR2 (st := []) (av := [.ref a0, .int (61 : Int32), .int ((((4 : Int32) * x1) + (1 : Int32)) + (1 : Int32)), .int (2 : Int32)]) E 0 0 (z_rV (st := []) (av := [.int (61 : Int32), .int ((((4 : Int32) * x1) + (1 : Int32)) + (1 : Int32)), .int (2 : Int32)]) E Y_X10_figures k_X10_206 (ci := 12) rfl (c_X10_figures (z_El E) e103) dX10_commandHere_148 e101 rfl rfl (by decide) (by decide) (by decide) (by decide) (Nat.zero_le _)) rfl rfl rfl ?_
              rcases oi e with ⟨c104, e⟩ | ⟨c104, e⟩
              · refine z_if_eqT (tgt := 158) E dX10_commandHere_151 rfl (zb_f c104) ?_
                refine z_iconst E dX10_commandHere_158 ic_0 ?_
                obtain rfl := Option.some.inj e
                exact z_iret E M dX10_commandHere_159 rfl rfl rfl rfl (by decide) (by decide)
              · refine z_if_eqF (tgt := 158) E dX10_commandHere_151 rfl (zb_nf c104) ?_
                refine z_iconst E dX10_commandHere_154 ic_1 ?_
                refine z_goto (tgt := 159) E dX10_commandHere_155 rfl ?_
                obtain rfl := Option.some.inj e
                exact z_iret E M dX10_commandHere_159 rfl rfl rfl rfl (by decide) (by decide)
      · refine z_if_eqF (tgt := 110) E dX10_commandHere_79 rfl (zb_nf c14) ?_
        refine z_aload_n E 1 dX10_commandHere_82 rfl ?_
        refine z_bipush E dX10_commandHere_83 bp_6 ?_
        refine z_ldcS E ks_X10_221 dX10_commandHere_85 ?_
        obtain ⟨_, e105, e⟩ := ob e
        obtain ⟨p106, e107, e⟩ := ob e
        refine z_kR2 (st := []) (av := [.ref a0, .int (6 : Int32), .ref 70]) E 0 0 (z_rV (st := []) (av := [.int (6 : Int32), .ref 70]) E Y_X10_isWord k_X10_202 (ci := 12) rfl (c_X10_isWord (z_El E) e107) dX10_commandHere_87 e105 rfl rfl (by decide) (by decide) (by decide) (by decide) (Nat.zero_le _)) rfl rfl rfl ?_
        rcases oi e with ⟨c108, e⟩ | ⟨c108, e⟩
        · refine z_if_eqT (tgt := 108) E dX10_commandHere_90 rfl (zb_f c108) ?_
          refine z_iconst E dX10_commandHere_108 ic_0 ?_
          obtain rfl := Option.some.inj e
          exact z_iret E M dX10_commandHere_109 rfl rfl rfl rfl (by decide) (by decide)
        · refine z_if_eqF (tgt := 108) E dX10_commandHere_90 rfl (zb_nf c108) ?_
          refine z_aload_n E 1 dX10_commandHere_93 rfl ?_
          refine z_bipush E dX10_commandHere_94 bp_32 ?_
          refine z_iload_n E 0 dX10_commandHere_96 rfl ?_
          refine z_iconst E dX10_commandHere_97 ic_1 ?_
          obtain ⟨_, e109, e⟩ := ob e
          obtain ⟨p110, e111, e⟩ := ob e
          refine z_kR2 (st := []) (av := [.ref a0, .int (32 : Int32), .int (((4 : Int32) * x1) + (1 : Int32)), .int (1 : Int32)]) E 0 0 (z_rV (st := []) (av := [.int (32 : Int32), .int (((4 : Int32) * x1) + (1 : Int32)), .int (1 : Int32)]) E Y_X10_figures k_X10_206 (ci := 12) rfl (c_X10_figures (z_El E) e111) dX10_commandHere_98 e109 rfl rfl (by decide) (by decide) (by decide) (by decide) (Nat.zero_le _)) rfl rfl rfl ?_
          rcases oi e with ⟨c112, e⟩ | ⟨c112, e⟩
          · refine z_if_eqT (tgt := 108) E dX10_commandHere_101 rfl (zb_f c112) ?_
            refine z_iconst E dX10_commandHere_108 ic_0 ?_
            obtain rfl := Option.some.inj e
            exact z_iret E M dX10_commandHere_109 rfl rfl rfl rfl (by decide) (by decide)
          · refine z_if_eqF (tgt := 108) E dX10_commandHere_101 rfl (zb_nf c112) ?_
            refine z_iconst E dX10_commandHere_104 ic_1 ?_
            refine z_goto (tgt := 109) E dX10_commandHere_105 rfl ?_
            obtain rfl := Option.some.inj e
            exact z_iret E M dX10_commandHere_109 rfl rfl rfl rfl (by decide) (by decide)
    · refine z_if_eqF (tgt := 73) E dX10_commandHere_30 rfl (zb_nf c10) ?_
      refine z_aload_n E 1 dX10_commandHere_33 rfl ?_
      refine z_iconst E dX10_commandHere_34 ic_2 ?_
      refine z_ldcS E ks_X10_219 dX10_commandHere_35 ?_
      obtain ⟨_, e113, e⟩ := ob e
      obtain ⟨p114, e115, e⟩ := ob e
      refine z_kR2 (st := []) (av := [.ref a0, .int (2 : Int32), .ref 68]) E 0 0 (z_rV (st := []) (av := [.int (2 : Int32), .ref 68]) E Y_X10_isWord k_X10_202 (ci := 12) rfl (c_X10_isWord (z_El E) e115) dX10_commandHere_37 e113 rfl rfl (by decide) (by decide) (by decide) (by decide) (Nat.zero_le _)) rfl rfl rfl ?_
      rcases oi e with ⟨c116, e⟩ | ⟨c116, e⟩
      · refine z_if_eqT (tgt := 71) E dX10_commandHere_40 rfl (zb_f c116) ?_
        refine z_iconst E dX10_commandHere_71 ic_0 ?_
        obtain rfl := Option.some.inj e
        exact z_iret E M dX10_commandHere_72 rfl rfl rfl rfl (by decide) (by decide)
      · refine z_if_eqF (tgt := 71) E dX10_commandHere_40 rfl (zb_nf c116) ?_
        refine z_aload_n E 1 dX10_commandHere_43 rfl ?_
        refine z_bipush E dX10_commandHere_44 bp_32 ?_
        refine z_iload_n E 0 dX10_commandHere_46 rfl ?_
        refine z_iconst E dX10_commandHere_47 ic_1 ?_
        obtain ⟨_, e117, e⟩ := ob e
        obtain ⟨p118, e119, e⟩ := ob e
        refine z_kR2 (st := []) (av := [.ref a0, .int (32 : Int32), .int (((4 : Int32) * x1) + (1 : Int32)), .int (1 : Int32)]) E 0 0 (z_rV (st := []) (av := [.int (32 : Int32), .int (((4 : Int32) * x1) + (1 : Int32)), .int (1 : Int32)]) E Y_X10_figures k_X10_206 (ci := 12) rfl (c_X10_figures (z_El E) e119) dX10_commandHere_48 e117 rfl rfl (by decide) (by decide) (by decide) (by decide) (Nat.zero_le _)) rfl rfl rfl ?_
        rcases oi e with ⟨c120, e⟩ | ⟨c120, e⟩
        · refine z_if_eqT (tgt := 71) E dX10_commandHere_51 rfl (zb_f c120) ?_
          refine z_iconst E dX10_commandHere_71 ic_0 ?_
          obtain rfl := Option.some.inj e
          exact z_iret E M dX10_commandHere_72 rfl rfl rfl rfl (by decide) (by decide)
        · refine z_if_eqF (tgt := 71) E dX10_commandHere_51 rfl (zb_nf c120) ?_
          refine z_aload_n E 1 dX10_commandHere_54 rfl ?_
          refine z_bipush E dX10_commandHere_55 bp_62 ?_
          refine z_iload_n E 0 dX10_commandHere_57 rfl ?_
          refine z_iconst E dX10_commandHere_58 ic_1 ?_
          refine z_iadd E dX10_commandHere_59 ?_
          refine z_iconst E dX10_commandHere_60 ic_1 ?_
          obtain ⟨_, e121, e⟩ := ob e
          obtain ⟨p122, e123, e⟩ := ob e
          refine z_kR2 (st := []) (av := [.ref a0, .int (62 : Int32), .int ((((4 : Int32) * x1) + (1 : Int32)) + (1 : Int32)), .int (1 : Int32)]) E 0 0 (z_rV (st := []) (av := [.int (62 : Int32), .int ((((4 : Int32) * x1) + (1 : Int32)) + (1 : Int32)), .int (1 : Int32)]) E Y_X10_figures k_X10_206 (ci := 12) rfl (c_X10_figures (z_El E) e123) dX10_commandHere_61 e121 rfl rfl (by decide) (by decide) (by decide) (by decide) (Nat.zero_le _)) rfl rfl rfl ?_
          rcases oi e with ⟨c124, e⟩ | ⟨c124, e⟩
          · refine z_if_eqT (tgt := 71) E dX10_commandHere_64 rfl (zb_f c124) ?_
            refine z_iconst E dX10_commandHere_71 ic_0 ?_
            obtain rfl := Option.some.inj e
            exact z_iret E M dX10_commandHere_72 rfl rfl rfl rfl (by decide) (by decide)
          · refine z_if_eqF (tgt := 71) E dX10_commandHere_64 rfl (zb_nf c124) ?_
            refine z_iconst E dX10_commandHere_67 ic_1 ?_
            refine z_goto (tgt := 72) E dX10_commandHere_68 rfl ?_
            obtain rfl := Option.some.inj e
            exact z_iret E M dX10_commandHere_72 rfl rfl rfl rfl (by decide) (by decide)
  · refine z_if_eqF (tgt := 24) E dX10_commandHere_15 rfl (zb_nf c6) ?_
    refine z_aload_n E 1 dX10_commandHere_18 rfl ?_
    refine z_iload_n E 0 dX10_commandHere_19 rfl ?_
    obtain ⟨_, e125, e⟩ := ob e
    obtain ⟨p126, e127, e⟩ := ob e
    refine z_kR2 (st := []) (av := [.ref a0, .int (((4 : Int32) * x1) + (1 : Int32))]) E 0 0 (z_rV (st := []) (av := [.int (((4 : Int32) * x1) + (1 : Int32))]) E Y_X10_withC k_X10_216 (ci := 12) rfl (c_X10_withC (z_El E) e127) dX10_commandHere_20 e125 rfl rfl (by decide) (by decide) (by decide) (by decide) (Nat.zero_le _)) rfl rfl rfl ?_
    obtain rfl := Option.some.inj e
    exact z_iret E M dX10_commandHere_23 rfl (zb_nar _) rfl rfl (by decide) (by decide)
theorem c_X10_commandHere {l : Launch} (hl : l.stackTraces = false) {h : PH} {a0 : Nat} {r : (Bool × PH)} (e : f_X10_commandHere h a0 = some r) : CMet l yX10_commandHere (z_W yX10_commandHere cX10_commandHere 2 (some .boolean)) rmX10_commandHere h [.ref a0] (.inr (some (.int (zb r.1)))) r.2 :=
  z_met hl Y_X10_commandHere (by decide +kernel) (Nat.le_of_ble_eq_true rfl) (fun X hX E T0 M => b_X10_commandHere E T0 e M)
abbrev rmX10_isText : Room := { frames := 14, cells := 0, slots := 0, locals := 268 }
noncomputable def f_X10_isText_L10 : Nat → PH → Nat → Option ((Bool × PH) ⊕ PH)
  | 0, _, _ => none
  | fu + 1, h, v0 =>
    (gd h v0 12).bind fun _ =>
    (f_X10_commandHere h v0).bind fun p2 =>
    if p2.1 = true then
      (rdI p2.2 v0 12 19).bind fun x5 =>
      (wr p2.2 v0 12 19 (.int (x5 + (1 : Int32)))).bind fun h7 =>
      (gd h7 v0 12).bind fun _ =>
      (f_X10_skips h7 v0 (59 : Int32)).bind fun p10 =>
      if p10.1 = true then
        f_X10_isText_L10 fu p10.2 v0
      else
        some (Sum.inr p10.2)
    else
      some (Sum.inl (false, p2.2))
theorem b_X10_isText_L10 {X : PX} (E : z_E X cX10_isText RX10 "isText" 1 rmX10_isText (some .boolean)) (T0 : z_T0 X) {k n : Nat} (hk : k + 0 ≤ rmX10_isText.cells) (hn : n + 0 ≤ rmX10_isText.slots) {s : ((Bool × PH) ⊕ PH)} : ∀ (fu : Nat) (h : PH) (v0 : Nat) (e : f_X10_isText_L10 fu h v0 = some s) (M : ∀ q, s = Sum.inl q → z_M X rmX10_isText.cells rmX10_isText.slots (.inr (some (.int (zb q.1)))) q.2) (kk : ∀ t, s = Sum.inr t → WP X 1 k n 38 [(0, .ref v0)] [] t), WP X 1 k n 10 [(0, .ref v0)] [] h := by
  intro fu
  induction fu with
  | zero => intro h v0 e; exact absurd (show (none : Option ((Bool × PH) ⊕ PH)) = some s from e) (by intro z; cases z)
  | succ fu ih =>
    intro h v0 e M kk
    unfold f_X10_isText_L10 at e
    refine z_aload_n E 0 dX10_isText_10 rfl ?_
    obtain ⟨_, e1, e⟩ := ob e
    obtain ⟨p2, e3, e⟩ := ob e
    refine z_kR2 (st := []) (av := [.ref v0]) E k n (z_rV (st := []) (av := []) E Y_X10_commandHere k_X10_235 (ci := 12) rfl (c_X10_commandHere (z_El E) e3) dX10_isText_11 e1 rfl rfl (by decide) (by decide) (zk (k := k) (a := 0) hk (by decide)) (zk (k := n) (a := 0) hn (by decide)) (Nat.zero_le _)) rfl rfl rfl ?_
    rcases oi e with ⟨c4, e⟩ | ⟨c4, e⟩
    · refine z_if_neT (tgt := 19) E dX10_isText_14 rfl (zb_t c4) ?_
      refine z_aload_n E 0 dX10_isText_19 rfl ?_
      refine z_dup E dX10_isText_20 rfl ?_
      obtain ⟨x5, e6, e⟩ := ob e
      refine z_getI E fl_X10_184 dX10_isText_21 e6 ?_
      refine z_iconst E dX10_isText_24 ic_1 ?_
      refine z_iadd E dX10_isText_25 ?_
      obtain ⟨h7, e8, e⟩ := ob e
      refine z_putI E fp_X10_184 (Or.inl rfl) dX10_isText_26 e8 ?_
      refine z_aload_n E 0 dX10_isText_29 rfl ?_
      refine z_bipush E dX10_isText_30 bp_59 ?_
      obtain ⟨_, e9, e⟩ := ob e
      obtain ⟨p10, e11, e⟩ := ob e
      refine z_kR2 (st := []) (av := [.ref v0, .int (59 : Int32)]) E k n (z_rV (st := []) (av := [.int (59 : Int32)]) E Y_X10_skips k_X10_194 (ci := 12) rfl (c_X10_skips (z_El E) e11) dX10_isText_32 e9 rfl rfl (by decide) (by decide) (zk (k := k) (a := 0) hk (by decide)) (zk (k := n) (a := 0) hn (by decide)) (Nat.zero_le _)) rfl rfl rfl ?_
      rcases oi e with ⟨c12, e⟩ | ⟨c12, e⟩
      · refine z_if_neT (tgt := 10) E dX10_isText_35 rfl (zb_t c12) ?_
        exact z_sub [0] rfl (ih _ _ e M kk)
      · refine z_if_neF (tgt := 10) E dX10_isText_35 rfl (zb_nt c12) ?_
        obtain rfl := Option.some.inj e
        exact z_sub [0] rfl (kk _ rfl)
    · refine z_if_neF (tgt := 19) E dX10_isText_14 rfl (zb_nt c4) ?_
      refine z_iconst E dX10_isText_17 ic_0 ?_
      have M := M _ (Option.some.inj e).symm
      exact z_iret E M dX10_isText_18 rfl rfl rfl rfl (zk (k := k) (a := 0) hk (by decide)) (zk (k := n) (a := 0) hn (by decide))
noncomputable def f_X10_isText (h : PH) (a0 : Nat) : Option (Bool × PH) :=
  (wr h a0 12 17 (.int (0 : Int32))).bind fun h1 =>
  (wr h1 a0 12 19 (.int (0 : Int32))).bind fun h3 =>
  (f_X10_isText_L10 FV h3 a0).bind fun s5 =>
  Sum.elim (fun q7 => some q7) (fun t8 =>
    (rdI t8 a0 12 17).bind fun x10 =>
    (rdI t8 a0 12 13).bind fun x12 =>
    if ¬ x10 = x12 then
      some (false, t8)
    else
      some (true, t8)) s5
theorem b_X10_isText {X : PX} (E : z_E X cX10_isText RX10 "isText" 1 rmX10_isText (some .boolean)) (T0 : z_T0 X) {h : PH} {a0 : Nat} {r : (Bool × PH)} (e : f_X10_isText h a0 = some r) (M : z_M X rmX10_isText.cells rmX10_isText.slots (.inr (some (.int (zb r.1)))) r.2) : WP X 1 0 0 0 [(0, .ref a0)] [] h := by
  unfold f_X10_isText at e
  refine z_aload_n E 0 dX10_isText_0 rfl ?_
  refine z_iconst E dX10_isText_1 ic_0 ?_
  obtain ⟨h1, e2, e⟩ := ob e
  refine z_putI E fp_X10_178 (Or.inl rfl) dX10_isText_2 e2 ?_
  refine z_aload_n E 0 dX10_isText_5 rfl ?_
  refine z_iconst E dX10_isText_6 ic_0 ?_
  obtain ⟨h3, e4, e⟩ := ob e
  refine z_putI E fp_X10_184 (Or.inl rfl) dX10_isText_7 e4 ?_
  obtain ⟨s5, e6, e⟩ := ob e
  refine z_sub [0] rfl (b_X10_isText_L10 E T0 (by decide) (by decide) FV _ _ e6 (fun q7 c9 => ?_) (fun t8 c9 => ?_))
  · have e := os_l e c9
    obtain rfl := Option.some.inj e
    exact M
  · have e := os_r e c9
    refine z_aload_n E 0 dX10_isText_38 rfl ?_
    obtain ⟨x10, e11, e⟩ := ob e
    refine z_getI E fl_X10_178 dX10_isText_39 e11 ?_
    refine z_aload_n E 0 dX10_isText_42 rfl ?_
    obtain ⟨x12, e13, e⟩ := ob e
    refine z_getI E fl_X10_175 dX10_isText_43 e13 ?_
    rcases oi e with ⟨c14, e⟩ | ⟨c14, e⟩
    · refine z_icmp_neT (tgt := 53) E dX10_isText_46 rfl c14 ?_
      refine z_iconst E dX10_isText_53 ic_0 ?_
      obtain rfl := Option.some.inj e
      exact z_iret E M dX10_isText_54 rfl rfl rfl rfl (by decide) (by decide)
    · refine z_icmp_neF (tgt := 53) E dX10_isText_46 rfl (Classical.not_not.mp c14) ?_
      refine z_iconst E dX10_isText_49 ic_1 ?_
      refine z_goto (tgt := 54) E dX10_isText_50 rfl ?_
      obtain rfl := Option.some.inj e
      exact z_iret E M dX10_isText_54 rfl rfl rfl rfl (by decide) (by decide)
theorem c_X10_isText {l : Launch} (hl : l.stackTraces = false) {h : PH} {a0 : Nat} {r : (Bool × PH)} (e : f_X10_isText h a0 = some r) : CMet l yX10_isText (z_W yX10_isText cX10_isText 1 (some .boolean)) rmX10_isText h [.ref a0] (.inr (some (.int (zb r.1)))) r.2 :=
  z_met hl Y_X10_isText (by decide +kernel) (Nat.le_of_ble_eq_true rfl) (fun X hX E T0 M => b_X10_isText E T0 e M)
abbrev rmX10_carries : Room := { frames := 5, cells := 0, slots := 0, locals := 118 }
noncomputable def f_X10_carries (h : PH) (a0 : Nat) (a1 : Int32) : Option (Int32 × PH) :=
  (rdR h a0 12 18).bind fun x1 =>
  (alI .int h x1 (a1 + (1 : Int32))).bind fun x3 =>
  (rdR h a0 12 18).bind fun x5 =>
  (alI .int h x5 (a1 + (2 : Int32))).bind fun x7 =>
  (rdR h a0 12 18).bind fun x9 =>
  (alI .int h x9 a1).bind fun x11 =>
  if x11.toInt < 0 ∨ 10 < x11.toInt then
    (gd h a0 12).bind fun _ =>
    (f_X10_pass h a0 x3).bind fun p15 =>
    some (p15.1, p15.2)
  else if x11 = (0 : Int32) then
    (gd h a0 12).bind fun _ =>
    (f_X10_addNote h a0 x3 x7).bind fun p19 =>
    some (p19.1, p19.2)
  else if x11 = (1 : Int32) then
    (gd h a0 12).bind fun _ =>
    (f_X10_cite h a0 x3 x7).bind fun p23 =>
    some (p23.1, p23.2)
  else if x11 = (2 : Int32) then
    (gd h a0 12).bind fun _ =>
    (f_X10_uncite h a0 x3 x7).bind fun p27 =>
    some (p27.1, p27.2)
  else if x11 = (3 : Int32) then
    (gd h a0 12).bind fun _ =>
    (f_X10_setCurrent h a0 x3 x7).bind fun p31 =>
    some (p31.1, p31.2)
  else if x11 = (4 : Int32) then
    (rdR h a0 12 18).bind fun x34 =>
    (alI .int h x34 (a1 + (3 : Int32))).bind fun x36 =>
    (gd h a0 12).bind fun _ =>
    (f_X10_addNet h a0 x3 x7 x36).bind fun p39 =>
    some (p39.1, p39.2)
  else if x11 = (5 : Int32) then
    (gd h a0 12).bind fun _ =>
    (f_X10_removeNet h a0 x3).bind fun p43 =>
    some (p43.1, p43.2)
  else if x11 = (6 : Int32) then
    (gd h a0 12).bind fun _ =>
    (f_X10_haul h a0 x3).bind fun p47 =>
    some (p47.1, p47.2)
  else if x11 = (7 : Int32) then
    (gd h a0 12).bind fun _ =>
    (f_X10_setQuota h a0 x3 x7).bind fun p51 =>
    some (p51.1, p51.2)
  else if x11 = (8 : Int32) then
    (gd h a0 12).bind fun _ =>
    (f_X10_land h a0).bind fun p55 =>
    some (p55.1, p55.2)
  else if x11 = (9 : Int32) then
    (gd h a0 12).bind fun _ =>
    (f_X10_free h a0 x3).bind fun p59 =>
    some (p59.1, p59.2)
  else if x11 = (10 : Int32) then
    (gd h a0 12).bind fun _ =>
    (f_X10_buyLicence h a0).bind fun p63 =>
    some (p63.1, p63.2)
  else none
theorem b_X10_carries {X : PX} (E : z_E X cX10_carries RX10 "carries" 4 rmX10_carries (some .int)) (T0 : z_T0 X) {h : PH} {a0 : Nat} {a1 : Int32} {r : (Int32 × PH)} (e : f_X10_carries h a0 a1 = some r) (M : z_M X rmX10_carries.cells rmX10_carries.slots (.inr (some (.int r.1))) r.2) : WP X 4 0 0 0 [(0, .ref a0), (1, .int a1)] [] h := by
  unfold f_X10_carries at e
  refine z_aload_n E 0 dX10_carries_0 rfl ?_
  obtain ⟨x1, e2, e⟩ := ob e
  refine z_getR E fl_X10_33 dX10_carries_1 e2 ?_
  refine z_iload_n E 1 dX10_carries_4 rfl ?_
  refine z_iconst E dX10_carries_5 ic_1 ?_
  refine z_iadd E dX10_carries_6 ?_
  obtain ⟨x3, e4, e⟩ := ob e
  refine z_iald E dX10_carries_7 e4 ?_
  refine z_istore_n (lv2 := [(2, .int x3), (0, .ref a0), (1, .int a1)]) E dX10_carries_8 (by decide) rfl ?_
  refine z_aload_n E 1 dX10_carries_9 rfl ?_
  obtain ⟨x5, e6, e⟩ := ob e
  refine z_getR E fl_X10_33 dX10_carries_10 e6 ?_
  refine z_iload_n E 2 dX10_carries_13 rfl ?_
  refine z_iconst E dX10_carries_14 ic_2 ?_
  refine z_iadd E dX10_carries_15 ?_
  obtain ⟨x7, e8, e⟩ := ob e
  refine z_iald E dX10_carries_16 e8 ?_
  refine z_istore_n (lv2 := [(3, .int x7), (2, .int x3), (0, .ref a0), (1, .int a1)]) E dX10_carries_17 (by decide) rfl ?_
  refine z_aload_n E 2 dX10_carries_18 rfl ?_
  obtain ⟨x9, e10, e⟩ := ob e
  refine z_getR E fl_X10_33 dX10_carries_19 e10 ?_
  refine z_iload_n E 3 dX10_carries_22 rfl ?_
  obtain ⟨x11, e12, e⟩ := ob e
  refine z_iald E dX10_carries_23 e12 ?_
  rcases oi e with ⟨c13, e⟩ | ⟨c13, e⟩
  · refine z_tableOut (tgt := 162) E dX10_carries_24 c13 rfl ?_
    refine z_aload_n E 2 dX10_carries_162 rfl ?_
    refine z_iload_n E 1 dX10_carries_163 rfl ?_
    obtain ⟨_, e65, e⟩ := ob e
    obtain ⟨p66, e67, e⟩ := ob e
    refine z_kR2 (st := []) (av := [.ref a0, .int x3]) E 0 0 (z_rV (st := []) (av := [.int x3]) E Y_X10_pass k_X10_272 (ci := 12) rfl (c_X10_pass (z_El E) e67) dX10_carries_164 e65 rfl rfl (by decide) (by decide) (by decide) (by decide) (Nat.zero_le _)) rfl rfl rfl ?_
    obtain rfl := Option.some.inj e
    exact z_iret E M dX10_carries_167 rfl rfl rfl rfl (by decide) (by decide)
  have c132 := z_sw c13
  rcases oi e with ⟨c68, e⟩ | ⟨c68, e⟩
  · refine z_tableIn (tgt := 84) E dX10_carries_24 c132.1 c132.2 (by rw [c68]; rfl) rfl ?_
    refine z_aload_n E 2 dX10_carries_84 rfl ?_
    refine z_iload_n E 1 dX10_carries_85 rfl ?_
    refine z_iload_n E 0 dX10_carries_86 rfl ?_
    obtain ⟨_, e69, e⟩ := ob e
    obtain ⟨p70, e71, e⟩ := ob e
    refine z_kR2 (st := []) (av := [.ref a0, .int x3, .int x7]) E 0 0 (z_rV (st := []) (av := [.int x3, .int x7]) E Y_X10_addNote k_X10_239 (ci := 12) rfl (c_X10_addNote (z_El E) e71) dX10_carries_87 e69 rfl rfl (by decide) (by decide) (by decide) (by decide) (Nat.zero_le _)) rfl rfl rfl ?_
    obtain rfl := Option.some.inj e
    exact z_iret E M dX10_carries_90 rfl rfl rfl rfl (by decide) (by decide)
  rcases oi e with ⟨c72, e⟩ | ⟨c72, e⟩
  · refine z_tableIn (tgt := 91) E dX10_carries_24 c132.1 c132.2 (by rw [c72]; rfl) rfl ?_
    refine z_aload_n E 2 dX10_carries_91 rfl ?_
    refine z_iload_n E 1 dX10_carries_92 rfl ?_
    refine z_iload_n E 0 dX10_carries_93 rfl ?_
    obtain ⟨_, e73, e⟩ := ob e
    obtain ⟨p74, e75, e⟩ := ob e
    refine z_kR2 (st := []) (av := [.ref a0, .int x3, .int x7]) E 0 0 (z_rV (st := []) (av := [.int x3, .int x7]) E Y_X10_cite k_X10_242 (ci := 12) rfl (c_X10_cite (z_El E) e75) dX10_carries_94 e73 rfl rfl (by decide) (by decide) (by decide) (by decide) (Nat.zero_le _)) rfl rfl rfl ?_
    obtain rfl := Option.some.inj e
    exact z_iret E M dX10_carries_97 rfl rfl rfl rfl (by decide) (by decide)
  rcases oi e with ⟨c76, e⟩ | ⟨c76, e⟩
  · refine z_tableIn (tgt := 98) E dX10_carries_24 c132.1 c132.2 (by rw [c76]; rfl) rfl ?_
    refine z_aload_n E 2 dX10_carries_98 rfl ?_
    refine z_iload_n E 1 dX10_carries_99 rfl ?_
    refine z_iload_n E 0 dX10_carries_100 rfl ?_
    obtain ⟨_, e77, e⟩ := ob e
    obtain ⟨p78, e79, e⟩ := ob e
    refine z_kR2 (st := []) (av := [.ref a0, .int x3, .int x7]) E 0 0 (z_rV (st := []) (av := [.int x3, .int x7]) E Y_X10_uncite k_X10_245 (ci := 12) rfl (c_X10_uncite (z_El E) e79) dX10_carries_101 e77 rfl rfl (by decide) (by decide) (by decide) (by decide) (Nat.zero_le _)) rfl rfl rfl ?_
    obtain rfl := Option.some.inj e
    exact z_iret E M dX10_carries_104 rfl rfl rfl rfl (by decide) (by decide)
  rcases oi e with ⟨c80, e⟩ | ⟨c80, e⟩
  · refine z_tableIn (tgt := 105) E dX10_carries_24 c132.1 c132.2 (by rw [c80]; rfl) rfl ?_
    refine z_aload_n E 2 dX10_carries_105 rfl ?_
    refine z_iload_n E 1 dX10_carries_106 rfl ?_
    refine z_iload_n E 0 dX10_carries_107 rfl ?_
    obtain ⟨_, e81, e⟩ := ob e
    obtain ⟨p82, e83, e⟩ := ob e
    refine z_kR2 (st := []) (av := [.ref a0, .int x3, .int x7]) E 0 0 (z_rV (st := []) (av := [.int x3, .int x7]) E Y_X10_setCurrent k_X10_248 (ci := 12) rfl (c_X10_setCurrent (z_El E) e83) dX10_carries_108 e81 rfl rfl (by decide) (by decide) (by decide) (by decide) (Nat.zero_le _)) rfl rfl rfl ?_
    obtain rfl := Option.some.inj e
    exact z_iret E M dX10_carries_111 rfl rfl rfl rfl (by decide) (by decide)
  rcases oi e with ⟨c84, e⟩ | ⟨c84, e⟩
  · refine z_tableIn (tgt := 112) E dX10_carries_24 c132.1 c132.2 (by rw [c84]; rfl) rfl ?_
    refine z_aload_n E 2 dX10_carries_112 rfl ?_
    refine z_iload_n E 1 dX10_carries_113 rfl ?_
    refine z_iload_n E 0 dX10_carries_114 rfl ?_
    refine z_aload_n E 2 dX10_carries_115 rfl ?_
    obtain ⟨x85, e86, e⟩ := ob e
    refine z_getR E fl_X10_33 dX10_carries_116 e86 ?_
    refine z_iload_n E 3 dX10_carries_119 rfl ?_
    refine z_iconst E dX10_carries_120 ic_3 ?_
    refine z_iadd E dX10_carries_121 ?_
    obtain ⟨x87, e88, e⟩ := ob e
    refine z_iald E dX10_carries_122 e88 ?_
    obtain ⟨_, e89, e⟩ := ob e
    obtain ⟨p90, e91, e⟩ := ob e
    refine z_kR2 (st := []) (av := [.ref a0, .int x3, .int x7, .int x87]) E 0 0 (z_rV (st := []) (av := [.int x3, .int x7, .int x87]) E Y_X10_addNet k_X10_251 (ci := 12) rfl (c_X10_addNet (z_El E) e91) dX10_carries_123 e89 rfl rfl (by decide) (by decide) (by decide) (by decide) (Nat.zero_le _)) rfl rfl rfl ?_
    obtain rfl := Option.some.inj e
    exact z_iret E M dX10_carries_126 rfl rfl rfl rfl (by decide) (by decide)
  rcases oi e with ⟨c92, e⟩ | ⟨c92, e⟩
  · refine z_tableIn (tgt := 127) E dX10_carries_24 c132.1 c132.2 (by rw [c92]; rfl) rfl ?_
    refine z_aload_n E 2 dX10_carries_127 rfl ?_
    refine z_iload_n E 1 dX10_carries_128 rfl ?_
    obtain ⟨_, e93, e⟩ := ob e
    obtain ⟨p94, e95, e⟩ := ob e
    refine z_kR2 (st := []) (av := [.ref a0, .int x3]) E 0 0 (z_rV (st := []) (av := [.int x3]) E Y_X10_removeNet k_X10_254 (ci := 12) rfl (c_X10_removeNet (z_El E) e95) dX10_carries_129 e93 rfl rfl (by decide) (by decide) (by decide) (by decide) (Nat.zero_le _)) rfl rfl rfl ?_
    obtain rfl := Option.some.inj e
    exact z_iret E M dX10_carries_132 rfl rfl rfl rfl (by decide) (by decide)
  rcases oi e with ⟨c96, e⟩ | ⟨c96, e⟩
  · refine z_tableIn (tgt := 133) E dX10_carries_24 c132.1 c132.2 (by rw [c96]; rfl) rfl ?_
    refine z_aload_n E 2 dX10_carries_133 rfl ?_
    refine z_iload_n E 1 dX10_carries_134 rfl ?_
    obtain ⟨_, e97, e⟩ := ob e
    obtain ⟨p98, e99, e⟩ := ob e
    refine z_kR2 (st := []) (av := [.ref a0, .int x3]) E 0 0 (z_rV (st := []) (av := [.int x3]) E Y_X10_haul k_X10_257 (ci := 12) rfl (c_X10_haul (z_El E) e99) dX10_carries_135 e97 rfl rfl (by decide) (by decide) (by decide) (by decide) (Nat.zero_le _)) rfl rfl rfl ?_
    obtain rfl := Option.some.inj e
    exact z_iret E M dX10_carries_138 rfl rfl rfl rfl (by decide) (by decide)
  rcases oi e with ⟨c100, e⟩ | ⟨c100, e⟩
  · refine z_tableIn (tgt := 139) E dX10_carries_24 c132.1 c132.2 (by rw [c100]; rfl) rfl ?_
    refine z_aload_n E 2 dX10_carries_139 rfl ?_
    refine z_iload_n E 1 dX10_carries_140 rfl ?_
    refine z_iload_n E 0 dX10_carries_141 rfl ?_
    obtain ⟨_, e101, e⟩ := ob e
    obtain ⟨p102, e103, e⟩ := ob e
    refine z_kR2 (st := []) (av := [.ref a0, .int x3, .int x7]) E 0 0 (z_rV (st := []) (av := [.int x3, .int x7]) E Y_X10_setQuota k_X10_260 (ci := 12) rfl (c_X10_setQuota (z_El E) e103) dX10_carries_142 e101 rfl rfl (by decide) (by decide) (by decide) (by decide) (Nat.zero_le _)) rfl rfl rfl ?_
    obtain rfl := Option.some.inj e
    exact z_iret E M dX10_carries_145 rfl rfl rfl rfl (by decide) (by decide)
  rcases oi e with ⟨c104, e⟩ | ⟨c104, e⟩
  · refine z_tableIn (tgt := 146) E dX10_carries_24 c132.1 c132.2 (by rw [c104]; rfl) rfl ?_
    refine z_aload_n E 2 dX10_carries_146 rfl ?_
    obtain ⟨_, e105, e⟩ := ob e
    obtain ⟨p106, e107, e⟩ := ob e
    refine z_kR2 (st := []) (av := [.ref a0]) E 0 0 (z_rV (st := []) (av := []) E Y_X10_land k_X10_263 (ci := 12) rfl (c_X10_land (z_El E) e107) dX10_carries_147 e105 rfl rfl (by decide) (by decide) (by decide) (by decide) (Nat.zero_le _)) rfl rfl rfl ?_
    obtain rfl := Option.some.inj e
    exact z_iret E M dX10_carries_150 rfl rfl rfl rfl (by decide) (by decide)
  rcases oi e with ⟨c108, e⟩ | ⟨c108, e⟩
  · refine z_tableIn (tgt := 151) E dX10_carries_24 c132.1 c132.2 (by rw [c108]; rfl) rfl ?_
    refine z_aload_n E 2 dX10_carries_151 rfl ?_
    refine z_iload_n E 1 dX10_carries_152 rfl ?_
    obtain ⟨_, e109, e⟩ := ob e
    obtain ⟨p110, e111, e⟩ := ob e
    refine z_kR2 (st := []) (av := [.ref a0, .int x3]) E 0 0 (z_rV (st := []) (av := [.int x3]) E Y_X10_free k_X10_266 (ci := 12) rfl (c_X10_free (z_El E) e111) dX10_carries_153 e109 rfl rfl (by decide) (by decide) (by decide) (by decide) (Nat.zero_le _)) rfl rfl rfl ?_
    obtain rfl := Option.some.inj e
    exact z_iret E M dX10_carries_156 rfl rfl rfl rfl (by decide) (by decide)
  rcases oi e with ⟨c112, e⟩ | ⟨c112, e⟩
  · refine z_tableIn (tgt := 157) E dX10_carries_24 c132.1 c132.2 (by rw [c112]; rfl) rfl ?_
    refine z_aload_n E 2 dX10_carries_157 rfl ?_
    obtain ⟨_, e113, e⟩ := ob e
    obtain ⟨p114, e115, e⟩ := ob e
    refine z_kR2 (st := []) (av := [.ref a0]) E 0 0 (z_rV (st := []) (av := []) E Y_X10_buyLicence k_X10_269 (ci := 12) rfl (c_X10_buyLicence (z_El E) e115) dX10_carries_158 e113 rfl rfl (by decide) (by decide) (by decide) (by decide) (Nat.zero_le _)) rfl rfl rfl ?_
    obtain rfl := Option.some.inj e
    exact z_iret E M dX10_carries_161 rfl rfl rfl rfl (by decide) (by decide)
  cases e
theorem c_X10_carries {l : Launch} (hl : l.stackTraces = false) {h : PH} {a0 : Nat} {a1 : Int32} {r : (Int32 × PH)} (e : f_X10_carries h a0 a1 = some r) : CMet l yX10_carries (z_W yX10_carries cX10_carries 4 (some .int)) rmX10_carries h [.ref a0, .int a1] (.inr (some (.int r.1))) r.2 :=
  z_met hl Y_X10_carries (by decide +kernel) (Nat.le_of_ble_eq_true rfl) (fun X hX E T0 M => b_X10_carries E T0 e M)
abbrev rmX10_deniesText : Room := { frames := 1, cells := 0, slots := 0, locals := 23 }
noncomputable def f_X10_deniesText (h : PH) (a0 : Nat) (a1 : Int32) : Option (Int32 × PH) :=
  (rdI h a0 12 7).bind fun x1 =>
  if x1 = 0 then
    (gd h a0 12).bind fun _ =>
    (f_X10_denies h a0 (2 : Int32) (9 : Int32) a1).bind fun p5 =>
    (wr p5.2 a0 12 11 (.int (10 : Int32))).bind fun h7 =>
    some ((0 : Int32), h7)
  else
    (rdI h a0 12 9).bind fun x9 =>
    (gd h a0 12).bind fun _ =>
    (f_X10_denies h a0 (2 : Int32) (9 : Int32) a1).bind fun p12 =>
    (wr p12.2 a0 12 11 (.int x9)).bind fun h14 =>
    some ((0 : Int32), h14)
theorem b_X10_deniesText {X : PX} (E : z_E X cX10_deniesText RX10 "deniesText" 3 rmX10_deniesText (some .int)) (T0 : z_T0 X) {h : PH} {a0 : Nat} {a1 : Int32} {r : (Int32 × PH)} (e : f_X10_deniesText h a0 a1 = some r) (M : z_M X rmX10_deniesText.cells rmX10_deniesText.slots (.inr (some (.int r.1))) r.2) : WP X 3 0 0 0 [(0, .ref a0), (1, .int a1)] [] h := by
  unfold f_X10_deniesText at e
  refine z_aload_n E 0 dX10_deniesText_0 rfl ?_
  obtain ⟨x1, e2, e⟩ := ob e
  refine z_getI E fl_X10_39 dX10_deniesText_1 e2 ?_
  rcases oi e with ⟨c3, e⟩ | ⟨c3, e⟩
  · refine z_if_eqT (tgt := 14) E dX10_deniesText_4 rfl c3 ?_
    refine z_bipush E dX10_deniesText_14 bp_10 ?_
    refine z_istore_n (lv2 := [(2, .int (10 : Int32)), (0, .ref a0), (1, .int a1)]) E dX10_deniesText_16 (by decide) rfl ?_
    refine z_aload_n E 1 dX10_deniesText_17 rfl ?_
    refine z_iconst E dX10_deniesText_18 ic_2 ?_
    refine z_bipush E dX10_deniesText_19 bp_9 ?_
    refine z_iload_n E 2 dX10_deniesText_21 rfl ?_
    obtain ⟨_, e4, e⟩ := ob e
    obtain ⟨p5, e6, e⟩ := ob e
    refine z_kR2 (st := []) (av := [.ref a0, .int (2 : Int32), .int (9 : Int32), .int a1]) E 0 0 (z_rV (st := []) (av := [.int (2 : Int32), .int (9 : Int32), .int a1]) E Y_X10_denies k_X10_80 (ci := 12) rfl (c_X10_denies (z_El E) e6) dX10_deniesText_22 e4 rfl rfl (by decide) (by decide) (by decide) (by decide) (Nat.zero_le _)) rfl rfl rfl ?_
    refine z_pop E dX10_deniesText_25 rfl ?_
    refine z_aload_n E 1 dX10_deniesText_26 rfl ?_
    refine z_iload_n E 0 dX10_deniesText_27 rfl ?_
    obtain ⟨h7, e8, e⟩ := ob e
    refine z_putI E fp_X10_49 (Or.inl rfl) dX10_deniesText_28 e8 ?_
    refine z_iconst E dX10_deniesText_31 ic_0 ?_
    obtain rfl := Option.some.inj e
    exact z_iret E M dX10_deniesText_32 rfl rfl rfl rfl (by decide) (by decide)
  · refine z_if_eqF (tgt := 14) E dX10_deniesText_4 rfl c3 ?_
    refine z_aload_n E 0 dX10_deniesText_7 rfl ?_
    obtain ⟨x9, e10, e⟩ := ob e
    refine z_getI E fl_X10_43 dX10_deniesText_8 e10 ?_
    refine z_goto (tgt := 16) E dX10_deniesText_11 rfl ?_
    refine z_istore_n (lv2 := [(2, .int x9), (0, .ref a0), (1, .int a1)]) E dX10_deniesText_16 (by decide) rfl ?_
    refine z_aload_n E 1 dX10_deniesText_17 rfl ?_
    refine z_iconst E dX10_deniesText_18 ic_2 ?_
    refine z_bipush E dX10_deniesText_19 bp_9 ?_
    refine z_iload_n E 2 dX10_deniesText_21 rfl ?_
    obtain ⟨_, e11, e⟩ := ob e
    obtain ⟨p12, e13, e⟩ := ob e
    refine z_kR2 (st := []) (av := [.ref a0, .int (2 : Int32), .int (9 : Int32), .int a1]) E 0 0 (z_rV (st := []) (av := [.int (2 : Int32), .int (9 : Int32), .int a1]) E Y_X10_denies k_X10_80 (ci := 12) rfl (c_X10_denies (z_El E) e13) dX10_deniesText_22 e11 rfl rfl (by decide) (by decide) (by decide) (by decide) (Nat.zero_le _)) rfl rfl rfl ?_
    refine z_pop E dX10_deniesText_25 rfl ?_
    refine z_aload_n E 1 dX10_deniesText_26 rfl ?_
    refine z_iload_n E 0 dX10_deniesText_27 rfl ?_
    obtain ⟨h14, e15, e⟩ := ob e
    refine z_putI E fp_X10_49 (Or.inl rfl) dX10_deniesText_28 e15 ?_
    refine z_iconst E dX10_deniesText_31 ic_0 ?_
    obtain rfl := Option.some.inj e
    exact z_iret E M dX10_deniesText_32 rfl rfl rfl rfl (by decide) (by decide)
theorem c_X10_deniesText {l : Launch} (hl : l.stackTraces = false) {h : PH} {a0 : Nat} {a1 : Int32} {r : (Int32 × PH)} (e : f_X10_deniesText h a0 a1 = some r) : CMet l yX10_deniesText (z_W yX10_deniesText cX10_deniesText 3 (some .int)) rmX10_deniesText h [.ref a0, .int a1] (.inr (some (.int r.1))) r.2 :=
  z_met hl Y_X10_deniesText (by decide +kernel) (Nat.le_of_ble_eq_true rfl) (fun X hX E T0 M => b_X10_deniesText E T0 e M)
