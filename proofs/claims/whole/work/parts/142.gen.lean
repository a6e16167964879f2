abbrev rmX1_passDay : Room := { frames := 2, cells := 0, slots := 0, locals := 42 }
noncomputable def f_X1_passDay (h : PH) (a0 : Nat) : Option (Int32 × PH) :=
  (gd h a0 9).bind fun _ =>
  (f_X7_presentSeason h a0).bind fun p2 =>
  (rdI h a0 9 13).bind fun x4 =>
  (wr h a0 9 13 (.int (x4 + (1 : Int32)))).bind fun h6 =>
  (gd h6 a0 9).bind fun _ =>
  (f_X7_presentSeason h6 a0).bind fun p9 =>
  if p9 = p2 then
    (gd h6 a0 9).bind fun _ =>
    (f_X7_presentSeason h6 a0).bind fun p13 =>
    if ¬ p13 = (3 : Int32) then
      (f_X1_drift h6 a0).bind fun p16 =>
      some (p16.1, p16.2)
    else
      some ((0 : Int32), h6)
  else
    (wr h6 a0 9 12 (.int (0 : Int32))).bind fun h18 =>
    (rdR h18 a0 9 7).bind fun x20 =>
    (f_J7_fill_53178 h18 x20 (0 : Int32)).bind fun p22 =>
    (gd p22 a0 9).bind fun _ =>
    (f_X7_presentSeason p22 a0).bind fun p25 =>
    if ¬ p25 = (3 : Int32) then
      (f_X1_drift p22 a0).bind fun p28 =>
      some (p28.1, p28.2)
    else
      some ((0 : Int32), p22)
theorem b_X1_passDay {X : PX} (E : z_E X cX1_passDay RX1 "passDay" 2 rmX1_passDay (some .int)) (T0 : z_T0 X) {h : PH} {a0 : Nat} {r : (Int32 × PH)} (e : f_X1_passDay h a0 = some r) (M : z_M X rmX1_passDay.cells rmX1_passDay.slots (.inr (some (.int r.1))) r.2) : WP X 2 0 0 0 [(0, .ref a0)] [] h := by
  unfold f_X1_passDay at e
  refine z_aload_n E 0 dX1_passDay_0 rfl ?_
  obtain ⟨_, e1, e⟩ := ob e
  obtain ⟨p2, e3, e⟩ := ob e
  refine z_kR2 (st := []) (av := [.ref a0]) E 0 0 (z_rV (st := []) (av := []) E Y_X7_presentSeason k_X1_136 (ci := 9) rfl (c_X7_presentSeason (z_El E) e3) dX1_passDay_1 e1 rfl rfl (by decide) (by decide) (by decide) (by decide) (Nat.zero_le _)) rfl rfl rfl ?_
  refine z_istore_n (lv2 := [(1, .int p2), (0, .ref a0)]) E dX1_passDay_4 (by decide) rfl ?_
  refine z_aload_n E 1 dX1_passDay_5 rfl ?_
  refine z_dup E dX1_passDay_6 rfl ?_
  obtain ⟨x4, e5, e⟩ := ob e
  refine z_getI E fl_X1_139 dX1_passDay_7 e5 ?_
  refine z_iconst E dX1_passDay_10 ic_1 ?_
  refine z_iadd E dX1_passDay_11 ?_
  obtain ⟨h6, e7, e⟩ := ob e
  refine z_putI E fp_X1_139 (Or.inl rfl) dX1_passDay_12 e7 ?_
  refine z_aload_n E 1 dX1_passDay_15 rfl ?_
  obtain ⟨_, e8, e⟩ := ob e
  obtain ⟨p9, e10, e⟩ := ob e
  refine z_kR2 (st := []) (av := [.ref a0]) E 0 0 (z_rV (st := []) (av := []) E Y_X7_presentSeason k_X1_136 (ci := 9) rfl (c_X7_presentSeason (z_El E) e10) dX1_passDay_16 e8 rfl rfl (by decide) (by decide) (by decide) (by decide) (Nat.zero_le _)) rfl rfl rfl ?_
  refine z_iload_n E 0 dX1_passDay_19 rfl ?_
  rcases oi e with ⟨c11, e⟩ | ⟨c11, e⟩
  · refine z_icmp_eqT (tgt := 36) E dX1_passDay_20 rfl c11 ?_
    refine z_aload_n E 1 dX1_passDay_36 rfl ?_
    obtain ⟨_, e12, e⟩ := ob e
    obtain ⟨p13, e14, e⟩ := ob e
    refine z_kR2 (st := []) (av := [.ref a0]) E 0 0 (z_rV (st := []) (av := []) E Y_X7_presentSeason k_X1_136 (ci := 9) rfl (c_X7_presentSeason (z_El E) e14) dX1_passDay_37 e12 rfl rfl (by decide) (by decide) (by decide) (by decide) (Nat.zero_le _)) rfl rfl rfl ?_
    refine z_iconst E dX1_passDay_40 ic_3 ?_
    rcases oi e with ⟨c15, e⟩ | ⟨c15, e⟩
    · refine z_icmp_neT (tgt := 48) E dX1_passDay_41 rfl c15 ?_
      refine z_aload_n E 1 dX1_passDay_48 rfl ?_
      obtain ⟨p16, e17, e⟩ := ob e
      refine z_kR2 (st := []) (av := [.ref a0]) E 0 0 (z_rS (st := []) (av := [.ref a0]) E Y_X1_drift k_X1_148 (c_X1_drift (z_El E) e17) dX1_passDay_49 rfl rfl (by decide) (by decide) (by decide) (by decide) (Nat.zero_le _)) rfl rfl rfl ?_
      obtain rfl := Option.some.inj e
      exact z_iret E M dX1_passDay_52 rfl rfl rfl rfl (by decide) (by decide)
    · refine z_icmp_neF (tgt := 48) E dX1_passDay_41 rfl (Classical.not_not.mp c15) ?_
      refine z_iconst E dX1_passDay_44 ic_0 ?_
      refine z_goto (tgt := 52) E dX1_passDay_45 rfl ?_
      obtain rfl := Option.some.inj e
      exact z_iret E M dX1_passDay_52 rfl rfl rfl rfl (by decide) (by decide)
  · refine z_icmp_eqF (tgt := 36) E dX1_passDay_20 rfl c11 ?_
    refine z_aload_n E 1 dX1_passDay_23 rfl ?_
    refine z_iconst E dX1_passDay_24 ic_0 ?_
    obtain ⟨h18, e19, e⟩ := ob e
    refine z_putV E fp_X1_129 (Or.inl rfl) dX1_passDay_25 e19 (fun _ => ⟨rfl, rfl⟩) ?_
    refine z_aload_n E 1 dX1_passDay_28 rfl ?_
    obtain ⟨x20, e21, e⟩ := ob e
    refine z_getR E fl_X1_116 dX1_passDay_29 e21 ?_
    refine z_iconst E dX1_passDay_32 ic_0 ?_
    obtain ⟨p22, e23, e⟩ := ob e
    refine z_kV2 (st := []) (av := [.ref x20, .int (0 : Int32)]) E 0 0 (z_rS (st := []) (av := [.ref x20, .int (0 : Int32)]) E Y_J7_fill_53178 k_X1_142 (c_J7_fill_53178 (z_El E) e23) dX1_passDay_33 rfl rfl (by decide) (by decide) (by decide) (by decide) (Nat.zero_le _)) rfl rfl rfl ?_
    refine z_aload_n E 1 dX1_passDay_36 rfl ?_
    obtain ⟨_, e24, e⟩ := ob e
    obtain ⟨p25, e26, e⟩ := ob e
    refine z_kR2 (st := []) (av := [.ref a0]) E 0 0 (z_rV (st := []) (av := []) E Y_X7_presentSeason k_X1_136 (ci := 9) rfl (c_X7_presentSeason (z_El E) e26) dX1_passDay_37 e24 rfl rfl (by decide) (by decide) (by decide) (by decide) (Nat.zero_le _)) rfl rfl rfl ?_
    refine z_iconst E dX1_passDay_40 ic_3 ?_
    rcases oi e with ⟨c27, e⟩ | ⟨c27, e⟩
    · refine z_icmp_neT (tgt := 48) E dX1_passDay_41 rfl c27 ?_
      refine z_aload_n E 1 dX1_passDay_48 rfl ?_
      obtain ⟨p28, e29, e⟩ := ob e
      refine z_kR2 (st := []) (av := [.ref a0]) E 0 0 (z_rS (st := []) (av := [.ref a0]) E Y_X1_drift k_X1_148 (c_X1_drift (z_El E) e29) dX1_passDay_49 rfl rfl (by decide) (by decide) (by decide) (by decide) (Nat.zero_le _)) rfl rfl rfl ?_
      obtain rfl := Option.some.inj e
      exact z_iret E M dX1_passDay_52 rfl rfl rfl rfl (by decide) (by decide)
    · refine z_icmp_neF (tgt := 48) E dX1_passDay_41 rfl (Classical.not_not.mp c27) ?_
      refine z_iconst E dX1_passDay_44 ic_0 ?_
      refine z_goto (tgt := 52) E dX1_passDay_45 rfl ?_
      obtain rfl := Option.some.inj e
      exact z_iret E M dX1_passDay_52 rfl rfl rfl rfl (by decide) (by decide)
theorem c_X1_passDay {l : Launch} (hl : l.stackTraces = false) {h : PH} {a0 : Nat} {r : (Int32 × PH)} (e : f_X1_passDay h a0 = some r) : CMet l yX1_passDay (z_W yX1_passDay cX1_passDay 2 (some .int)) rmX1_passDay h [.ref a0] (.inr (some (.int r.1))) r.2 :=
  z_met hl Y_X1_passDay (by decide +kernel) (Nat.le_of_ble_eq_true rfl) (fun X hX E T0 M => b_X1_passDay E T0 e M)
abbrev rmX1_passDays : Room := { frames := 3, cells := 0, slots := 0, locals := 63 }
noncomputable def f_X1_passDays_L4 : Nat → PH → Nat → Int32 → Int32 → Int32 → Option (Int32 × PH)
  | 0, _, _, _, _, _ => none
  | fu + 1, h, v0, v1, v2, v3 =>
    if v1 ≤ v3 then
      some (v2, h)
    else
      (f_X1_passDay h v0).bind fun p2 =>
      f_X1_passDays_L4 fu p2.2 v0 v1 (v2 + p2.1) (v3 + (1 : Int32))
theorem b_X1_passDays_L4 {X : PX} (E : z_E X cX1_passDays RX1 "passDays" 4 rmX1_passDays (some .int)) (T0 : z_T0 X) {k n : Nat} (hk : k + 0 ≤ rmX1_passDays.cells) (hn : n + 0 ≤ rmX1_passDays.slots) {s : (Int32 × PH)} : ∀ (fu : Nat) (h : PH) (v0 : Nat) (v1 : Int32) (v2 : Int32) (v3 : Int32) (e : f_X1_passDays_L4 fu h v0 v1 v2 v3 = some s) (kk : WP X 4 k n 22 [(2, .int s.1)] [] s.2), WP X 4 k n 4 [(0, .ref v0), (1, .int v1), (2, .int v2), (3, .int v3)] [] h := by
  intro fu
  induction fu with
  | zero => intro h v0 v1 v2 v3 e; exact absurd (show (none : Option (Int32 × PH)) = some s from e) (by intro z; cases z)
  | succ fu ih =>
    intro h v0 v1 v2 v3 e kk
    unfold f_X1_passDays_L4 at e
    refine z_iload_n E 3 dX1_passDays_4 rfl ?_
    refine z_iload_n E 1 dX1_passDays_5 rfl ?_
    rcases oi e with ⟨c1, e⟩ | ⟨c1, e⟩
    · refine z_icmp_geT (tgt := 22) E dX1_passDays_6 rfl c1 ?_
      obtain rfl := Option.some.inj e
      exact z_sub [2] rfl kk
    · refine z_icmp_geF (tgt := 22) E dX1_passDays_6 rfl c1 ?_
      refine z_iload_n E 2 dX1_passDays_9 rfl ?_
      refine z_aload_n E 0 dX1_passDays_10 rfl ?_
      obtain ⟨p2, e3, e⟩ := ob e
      refine z_kR2 (st := [.int v2]) (av := [.ref v0]) E k n (z_rS (st := [.int v2]) (av := [.ref v0]) E Y_X1_passDay k_X1_133 (c_X1_passDay (z_El E) e3) dX1_passDays_11 rfl rfl (by decide) (by decide) (zk (k := k) (a := 0) hk (by decide)) (zk (k := n) (a := 0) hn (by decide)) (Nat.le_of_ble_eq_true rfl)) rfl rfl rfl ?_
      refine z_iadd E dX1_passDays_14 ?_
      refine z_istore_n (lv2 := [(2, .int (v2 + p2.1)), (0, .ref v0), (1, .int v1), (3, .int v3)]) E dX1_passDays_15 (by decide) rfl ?_
      refine z_iinc (v := (v3 + (1 : Int32))) (lv2 := [(3, .int (v3 + (1 : Int32))), (2, .int (v2 + p2.1)), (0, .ref v0), (1, .int v1)]) E 3 dX1_passDays_16 rfl (congrArg (v3 + ·) ic_1) (by decide) rfl ?_
      refine z_goto (tgt := 4) E dX1_passDays_19 rfl ?_
      exact z_sub [2, 3, 1, 0] rfl (ih _ _ _ _ _ e kk)
noncomputable def f_X1_passDays (h : PH) (a0 : Nat) (a1 : Int32) : Option (Int32 × PH) :=
  (f_X1_passDays_L4 FV h a0 a1 (0 : Int32) (0 : Int32)).bind fun s1 =>
  some (s1.1, s1.2)
theorem b_X1_passDays {X : PX} (E : z_E X cX1_passDays RX1 "passDays" 4 rmX1_passDays (some .int)) (T0 : z_T0 X) {h : PH} {a0 : Nat} {a1 : Int32} {r : (Int32 × PH)} (e : f_X1_passDays h a0 a1 = some r) (M : z_M X rmX1_passDays.cells rmX1_passDays.slots (.inr (some (.int r.1))) r.2) : WP X 4 0 0 0 [(0, .ref a0), (1, .int a1)] [] h := by
  unfold f_X1_passDays at e
  refine z_iconst E dX1_passDays_0 ic_0 ?_
  refine z_istore_n (lv2 := [(2, .int (0 : Int32)), (0, .ref a0), (1, .int a1)]) E dX1_passDays_1 (by decide) rfl ?_
  refine z_iconst E dX1_passDays_2 ic_0 ?_
  refine z_istore_n (lv2 := [(3, .int (0 : Int32)), (2, .int (0 : Int32)), (0, .ref a0), (1, .int a1)]) E dX1_passDays_3 (by decide) rfl ?_
  obtain ⟨s1, e2, e⟩ := ob e
  refine z_sub [2, 3, 1, 0] rfl (b_X1_passDays_L4 E T0 (by decide) (by decide) FV _ _ _ _ _ e2 ?_)
  refine z_iload_n E 0 dX1_passDays_22 rfl ?_
  obtain rfl := Option.some.inj e
  exact z_iret E M dX1_passDays_23 rfl rfl rfl rfl (by decide) (by decide)
theorem c_X1_passDays {l : Launch} (hl : l.stackTraces = false) {h : PH} {a0 : Nat} {a1 : Int32} {r : (Int32 × PH)} (e : f_X1_passDays h a0 a1 = some r) : CMet l yX1_passDays (z_W yX1_passDays cX1_passDays 4 (some .int)) rmX1_passDays h [.ref a0, .int a1] (.inr (some (.int r.1))) r.2 :=
  z_met hl Y_X1_passDays (by decide +kernel) (Nat.le_of_ble_eq_true rfl) (fun X hX E T0 M => b_X1_passDays E T0 e M)
abbrev rmX1_perform : Room := { frames := 4, cells := 0, slots := 0, locals := 96 }
noncomputable def f_X1_perform (h : PH) (a0 : Nat) (a1 : Nat) (a2 : Int32) (a3 : Int32) (a4 : Int32) (a5 : Int32) : Option (Int32 × PH) :=
  if a2.toInt < 0 ∨ 11 < a2.toInt then
    some ((0 : Int32), h)
  else if a2 = (0 : Int32) then
    (f_X1_putNote h a0 a3 a4).bind fun p3 =>
    some (p3.1, p3.2)
  else if a2 = (1 : Int32) then
    (rdR h a0 9 4).bind fun x6 =>
    (alI .int h x6 a3).bind fun x8 =>
    (asI .int h x6 a3 (x8 ||| (f_X9_bit a4))).bind fun h10 =>
    (gd h10 a0 9).bind fun _ =>
    (f_X7_countCitedFrom h10 a0 a3).bind fun p13 =>
    some (p13, h10)
  else if a2 = (2 : Int32) then
    (rdR h a0 9 4).bind fun x16 =>
    (alI .int h x16 a3).bind fun x18 =>
    (asI .int h x16 a3 (x18 &&& ((f_X9_bit a4) ^^^ (-1 : Int32)))).bind fun h20 =>
    (gd h20 a0 9).bind fun _ =>
    (f_X7_countCitedFrom h20 a0 a3).bind fun p23 =>
    some (p23, h20)
  else if a2 = (3 : Int32) then
    (rdR h a0 9 5).bind fun x26 =>
    (f_X1_replace h x26 a3 a4).bind fun p28 =>
    some (p28.1, p28.2)
  else if a2 = (4 : Int32) then
    (f_X1_putNet h a0 a3 a4 a5).bind fun p31 =>
    some (p31.1, p31.2)
  else if a2 = (5 : Int32) then
    (f_X1_cutNet h a0 a3).bind fun p34 =>
    some (p34.1, p34.2)
  else if a2 = (6 : Int32) then
    (f_X1_haulNet h a0 a3).bind fun p37 =>
    some (p37.1, p37.2)
  else if a2 = (7 : Int32) then
    (rdR h a0 9 6).bind fun x40 =>
    (f_X1_replace h x40 a3 a4).bind fun p42 =>
    some (p42.1, p42.2)
  else if a2 = (8 : Int32) then
    (gd h a1 8).bind fun _ =>
    (f_X6_choose h a1 a0).bind fun p46 =>
    (f_X1_landHold p46.2 a0 p46.1).bind fun p48 =>
    some (p48.1, p48.2)
  else if a2 = (9 : Int32) then
    (f_X1_giveBack h a0 a3).bind fun p51 =>
    (gd p51 a0 9).bind fun _ =>
    (f_X7_count p51 a0 (104 : Int32)).bind fun p54 =>
    some (p54, p51)
  else if a2 = (10 : Int32) then
    (f_X1_payLicence h a0).bind fun p57 =>
    some (p57.1, p57.2)
  else if a2 = (11 : Int32) then
    (f_X1_passDays h a0 a3).bind fun p60 =>
    some (p60.1, p60.2)
  else none
theorem b_X1_perform {X : PX} (E : z_E X cX1_perform RX1 "perform" 6 rmX1_perform (some .int)) (T0 : z_T0 X) {h : PH} {a0 : Nat} {a1 : Nat} {a2 : Int32} {a3 : Int32} {a4 : Int32} {a5 : Int32} {r : (Int32 × PH)} (e : f_X1_perform h a0 a1 a2 a3 a4 a5 = some r) (M : z_M X rmX1_perform.cells rmX1_perform.slots (.inr (some (.int r.1))) r.2) : WP X 6 0 0 0 [(0, .ref a0), (1, .ref a1), (2, .int a2), (3, .int a3), (4, .int a4), (5, .int a5)] [] h := by
  unfold f_X1_perform at e
  refine z_iload_n E 2 dX1_perform_0 rfl ?_
  rcases oi e with ⟨c1, e⟩ | ⟨c1, e⟩
  · refine z_tableOut (tgt := 191) E dX1_perform_1 c1 rfl ?_
    refine z_iconst E dX1_perform_191 ic_0 ?_
    obtain rfl := Option.some.inj e
    exact z_iret E M dX1_perform_192 rfl rfl rfl rfl (by decide) (by decide)
  have c12 := z_sw c1
  rcases oi e with ⟨c62, e⟩ | ⟨c62, e⟩
  · refine z_tableIn (tgt := 64) E dX1_perform_1 c12.1 c12.2 (by rw [c62]; rfl) rfl ?_
    refine z_aload_n E 0 dX1_perform_64 rfl ?_
    refine z_iload_n E 3 dX1_perform_65 rfl ?_
    refine z_iload E 4 dX1_perform_66 rfl ?_
    obtain ⟨p63, e64, e⟩ := ob e
    refine z_kR2 (st := []) (av := [.ref a0, .int a3, .int a4]) E 0 0 (z_rS (st := []) (av := [.ref a0, .int a3, .int a4]) E Y_X1_putNote k_X1_9 (c_X1_putNote (z_El E) e64) dX1_perform_68 rfl rfl (by decide) (by decide) (by decide) (by decide) (Nat.zero_le _)) rfl rfl rfl ?_
    obtain rfl := Option.some.inj e
    exact z_iret E M dX1_perform_71 rfl rfl rfl rfl (by decide) (by decide)
  rcases oi e with ⟨c65, e⟩ | ⟨c65, e⟩
  · refine z_tableIn (tgt := 72) E dX1_perform_1 c12.1 c12.2 (by rw [c65]; rfl) rfl ?_
    refine z_aload_n E 0 dX1_perform_72 rfl ?_
    obtain ⟨x66, e67, e⟩ := ob e
    refine z_getR E fl_X1_15 dX1_perform_73 e67 ?_
    refine z_iload_n E 3 dX1_perform_76 rfl ?_
    refine z_dup2 E dX1_perform_77 rfl rfl ?_
    obtain ⟨x68, e69, e⟩ := ob e
    refine z_iald E dX1_perform_78 e69 ?_
    refine z_iload E 4 dX1_perform_79 rfl ?_
    refine z_kR2 (st := [.int x68, .int a3, .ref x66]) (av := [.int a4]) E 0 0 (z_rSN (st := [.int x68, .int a3, .ref x66]) (av := [.int a4]) E Y_X9_bit k_X1_21 (c_X9_bit (l := z_l X) (h := h) (z_El E) a4) dX1_perform_81 rfl rfl (by decide) (by decide) (by decide) (by decide) (Nat.le_of_ble_eq_true rfl)) rfl rfl rfl ?_
    refine z_ior E dX1_perform_84 ?_
    obtain ⟨h70, e71, e⟩ := ob e
    refine z_iast E dX1_perform_85 e71 ?_
    refine z_aload_n E 0 dX1_perform_86 rfl ?_
    refine z_iload_n E 3 dX1_perform_87 rfl ?_
    obtain ⟨_, e72, e⟩ := ob e
    obtain ⟨p73, e74, e⟩ := ob e
    refine z_kR2 (st := []) (av := [.ref a0, .int a3]) E 0 0 (z_rV (st := []) (av := [.int a3]) E Y_X7_countCitedFrom k_X1_25 (ci := 9) rfl (c_X7_countCitedFrom (z_El E) e74) dX1_perform_88 e72 rfl rfl (by decide) (by decide) (by decide) (by decide) (Nat.zero_le _)) rfl rfl rfl ?_
    obtain rfl := Option.some.inj e
    exact z_iret E M dX1_perform_91 rfl rfl rfl rfl (by decide) (by decide)
  rcases oi e with ⟨c75, e⟩ | ⟨c75, e⟩
  · refine z_tableIn (tgt := 92) E dX1_perform_1 c12.1 c12.2 (by rw [c75]; rfl) rfl ?_
    refine z_aload_n E 0 dX1_perform_92 rfl ?_
    obtain ⟨x76, e77, e⟩ := ob e
    refine z_getR E fl_X1_15 dX1_perform_93 e77 ?_
    refine z_iload_n E 3 dX1_perform_96 rfl ?_
    refine z_dup2 E dX1_perform_97 rfl rfl ?_
    obtain ⟨x78, e79, e⟩ := ob e
    refine z_iald E dX1_perform_98 e79 ?_
    refine z_iload E 4 dX1_perform_99 rfl ?_
    refine z_kR2 (st := [.int x78, .int a3, .ref x76]) (av := [.int a4]) E 0 0 (z_rSN (st := [.int x78, .int a3, .ref x76]) (av := [.int a4]) E Y_X9_bit k_X1_21 (c_X9_bit (l := z_l X) (h := h) (z_El E) a4) dX1_perform_101 rfl rfl (by decide) (by decide) (by decide) (by decide) (Nat.le_of_ble_eq_true rfl)) rfl rfl rfl ?_
    refine z_iconst E dX1_perform_104 ic_m1 ?_
    refine z_ixor E dX1_perform_105 ?_
    refine z_iand E dX1_perform_106 ?_
    obtain ⟨h80, e81, e⟩ := ob e
    refine z_iast E dX1_perform_107 e81 ?_
    refine z_aload_n E 0 dX1_perform_108 rfl ?_
    refine z_iload_n E 3 dX1_perform_109 rfl ?_
    obtain ⟨_, e82, e⟩ := ob e
    obtain ⟨p83, e84, e⟩ := ob e
    refine z_kR2 (st := []) (av := [.ref a0, .int a3]) E 0 0 (z_rV (st := []) (av := [.int a3]) E Y_X7_countCitedFrom k_X1_25 (ci := 9) rfl (c_X7_countCitedFrom (z_El E) e84) dX1_perform_110 e82 rfl rfl (by decide) (by decide) (by decide) (by decide) (Nat.zero_le _)) rfl rfl rfl ?_
    obtain rfl := Option.some.inj e
    exact z_iret E M dX1_perform_113 rfl rfl rfl rfl (by decide) (by decide)
  rcases oi e with ⟨c85, e⟩ | ⟨c85, e⟩
  · refine z_tableIn (tgt := 114) E dX1_perform_1 c12.1 c12.2 (by rw [c85]; rfl) rfl ?_
    refine z_aload_n E 0 dX1_perform_114 rfl ?_
    obtain ⟨x86, e87, e⟩ := ob e
    refine z_getR E fl_X1_28 dX1_perform_115 e87 ?_
    refine z_iload_n E 3 dX1_perform_118 rfl ?_
    refine z_iload E 4 dX1_perform_119 rfl ?_
    obtain ⟨p88, e89, e⟩ := ob e
    refine z_kR2 (st := []) (av := [.ref x86, .int a3, .int a4]) E 0 0 (z_rS (st := []) (av := [.ref x86, .int a3, .int a4]) E Y_X1_replace k_X1_31 (c_X1_replace (z_El E) e89) dX1_perform_121 rfl rfl (by decide) (by decide) (by decide) (by decide) (Nat.zero_le _)) rfl rfl rfl ?_
    obtain rfl := Option.some.inj e
    exact z_iret E M dX1_perform_124 rfl rfl rfl rfl (by decide) (by decide)
  rcases oi e with ⟨c90, e⟩ | ⟨c90, e⟩
  · refine z_tableIn (tgt := 125) E dX1_perform_1 c12.1 c12.2 (by rw [c90]; rfl) rfl ?_
    refine z_aload_n E 0 dX1_perform_125 rfl ?_
    refine z_iload_n E 3 dX1_perform_126 rfl ?_
    refine z_iload E 4 dX1_perform_127 rfl ?_
    refine z_iload E 5 dX1_perform_129 rfl ?_
    obtain ⟨p91, e92, e⟩ := ob e
    refine z_kR2 (st := []) (av := [.ref a0, .int a3, .int a4, .int a5]) E 0 0 (z_rS (st := []) (av := [.ref a0, .int a3, .int a4, .int a5]) E Y_X1_putNet k_X1_35 (c_X1_putNet (z_El E) e92) dX1_perform_131 rfl rfl (by decide) (by decide) (by decide) (by decide) (Nat.zero_le _)) rfl rfl rfl ?_
    obtain rfl := Option.some.inj e
    exact z_iret E M dX1_perform_134 rfl rfl rfl rfl (by decide) (by decide)
  rcases oi e with ⟨c93, e⟩ | ⟨c93, e⟩
  · refine z_tableIn (tgt := 135) E dX1_perform_1 c12.1 c12.2 (by rw [c93]; rfl) rfl ?_
    refine z_aload_n E 0 dX1_perform_135 rfl ?_
    refine z_iload_n E 3 dX1_perform_136 rfl ?_
    obtain ⟨p94, e95, e⟩ := ob e
    refine z_kR2 (st := []) (av := [.ref a0, .int a3]) E 0 0 (z_rS (st := []) (av := [.ref a0, .int a3]) E Y_X1_cutNet k_X1_39 (c_X1_cutNet (z_El E) e95) dX1_perform_137 rfl rfl (by decide) (by decide) (by decide) (by decide) (Nat.zero_le _)) rfl rfl rfl ?_
    obtain rfl := Option.some.inj e
    exact z_iret E M dX1_perform_140 rfl rfl rfl rfl (by decide) (by decide)
  rcases oi e with ⟨c96, e⟩ | ⟨c96, e⟩
  · refine z_tableIn (tgt := 141) E dX1_perform_1 c12.1 c12.2 (by rw [c96]; rfl) rfl ?_
    refine z_aload_n E 0 dX1_perform_141 rfl ?_
    refine z_iload_n E 3 dX1_perform_142 rfl ?_
    obtain ⟨p97, e98, e⟩ := ob e
    refine z_kR2 (st := []) (av := [.ref a0, .int a3]) E 0 0 (z_rS (st := []) (av := [.ref a0, .int a3]) E Y_X1_haulNet k_X1_43 (c_X1_haulNet (z_El E) e98) dX1_perform_143 rfl rfl (by decide) (by decide) (by decide) (by decide) (Nat.zero_le _)) rfl rfl rfl ?_
    obtain rfl := Option.some.inj e
    exact z_iret E M dX1_perform_146 rfl rfl rfl rfl (by decide) (by decide)
  rcases oi e with ⟨c99, e⟩ | ⟨c99, e⟩
  · refine z_tableIn (tgt := 147) E dX1_perform_1 c12.1 c12.2 (by rw [c99]; rfl) rfl ?_
    refine z_aload_n E 0 dX1_perform_147 rfl ?_
    obtain ⟨x100, e101, e⟩ := ob e
    refine z_getR E fl_X1_46 dX1_perform_148 e101 ?_
    refine z_iload_n E 3 dX1_perform_151 rfl ?_
    refine z_iload E 4 dX1_perform_152 rfl ?_
    obtain ⟨p102, e103, e⟩ := ob e
    refine z_kR2 (st := []) (av := [.ref x100, .int a3, .int a4]) E 0 0 (z_rS (st := []) (av := [.ref x100, .int a3, .int a4]) E Y_X1_replace k_X1_31 (c_X1_replace (z_El E) e103) dX1_perform_154 rfl rfl (by decide) (by decide) (by decide) (by decide) (Nat.zero_le _)) rfl rfl rfl ?_
    obtain rfl := Option.some.inj e
    exact z_iret E M dX1_perform_157 rfl rfl rfl rfl (by decide) (by decide)
  rcases oi e with ⟨c104, e⟩ | ⟨c104, e⟩
  · refine z_tableIn (tgt := 158) E dX1_perform_1 c12.1 c12.2 (by rw [c104]; rfl) rfl ?_
    refine z_aload_n E 0 dX1_perform_158 rfl ?_
    refine z_aload_n E 1 dX1_perform_159 rfl ?_
    refine z_aload_n E 0 dX1_perform_160 rfl ?_
    obtain ⟨_, e105, e⟩ := ob e
    obtain ⟨p106, e107, e⟩ := ob e
    refine z_kR2 (st := [.ref a0]) (av := [.ref a1, .ref a0]) E 0 0 (z_rV (st := [.ref a0]) (av := [.ref a0]) E Y_X6_choose k_X1_49 (ci := 8) rfl (c_X6_choose (z_El E) e107) dX1_perform_161 e105 rfl rfl (by decide) (by decide) (by decide) (by decide) (Nat.le_of_ble_eq_true rfl)) rfl rfl rfl ?_
    obtain ⟨p108, e109, e⟩ := ob e
    refine z_kR2 (st := []) (av := [.ref a0, .int p106.1]) E 0 0 (z_rS (st := []) (av := [.ref a0, .int p106.1]) E Y_X1_landHold k_X1_55 (c_X1_landHold (z_El E) e109) dX1_perform_164 rfl rfl (by decide) (by decide) (by decide) (by decide) (Nat.zero_le _)) rfl rfl rfl ?_
    obtain rfl := Option.some.inj e
    exact z_iret E M dX1_perform_167 rfl rfl rfl rfl (by decide) (by decide)
  rcases oi e with ⟨c110, e⟩ | ⟨c110, e⟩
  · refine z_tableIn (tgt := 168) E dX1_perform_1 c12.1 c12.2 (by rw [c110]; rfl) rfl ?_
    refine z_aload_n E 0 dX1_perform_168 rfl ?_
    refine z_iload_n E 3 dX1_perform_169 rfl ?_
    obtain ⟨p111, e112, e⟩ := ob e
    refine z_kV2 (st := []) (av := [.ref a0, .int a3]) E 0 0 (z_rS (st := []) (av := [.ref a0, .int a3]) E Y_X1_giveBack k_X1_58 (c_X1_giveBack (z_El E) e112) dX1_perform_170 rfl rfl (by decide) (by decide) (by decide) (by decide) (Nat.zero_le _)) rfl rfl rfl ?_
    refine z_aload_n E 0 dX1_perform_173 rfl ?_
    refine z_bipush E dX1_perform_174 bp_104 ?_
    obtain ⟨_, e113, e⟩ := ob e
    obtain ⟨p114, e115, e⟩ := ob e
    refine z_kR2 (st := []) (av := [.ref a0, .int (104 : Int32)]) E 0 0 (z_rV (st := []) (av := [.int (104 : Int32)]) E Y_X7_count k_X1_62 (ci := 9) rfl (c_X7_count (z_El E) e115) dX1_perform_176 e113 rfl rfl (by decide) (by decide) (by decide) (by decide) (Nat.zero_le _)) rfl rfl rfl ?_
    obtain rfl := Option.some.inj e
    exact z_iret E M dX1_perform_179 rfl rfl rfl rfl (by decide) (by decide)
  rcases oi e with ⟨c116, e⟩ | ⟨c116, e⟩
  · refine z_tableIn (tgt := 180) E dX1_perform_1 c12.1 c12.2 (by rw [c116]; rfl) rfl ?_
    refine z_aload_n E 0 dX1_perform_180 rfl ?_
    obtain ⟨p117, e118, e⟩ := ob e
    refine z_kR2 (st := []) (av := [.ref a0]) E 0 0 (z_rS (st := []) (av := [.ref a0]) E Y_X1_payLicence k_X1_66 (c_X1_payLicence (z_El E) e118) dX1_perform_181 rfl rfl (by decide) (by decide) (by decide) (by decide) (Nat.zero_le _)) rfl rfl rfl ?_
    obtain rfl := Option.some.inj e
    exact z_iret E M dX1_perform_184 rfl rfl rfl rfl (by decide) (by decide)
  rcases oi e with ⟨c119, e⟩ | ⟨c119, e⟩
  · refine z_tableIn (tgt := 185) E dX1_perform_1 c12.1 c12.2 (by rw [c119]; rfl) rfl ?_
    refine z_aload_n E 0 dX1_perform_185 rfl ?_
    refine z_iload_n E 3 dX1_perform_186 rfl ?_
    obtain ⟨p120, e121, e⟩ := ob e
    refine z_kR2 (st := []) (av := [.ref a0, .int a3]) E 0 0 (z_rS (st := []) (av := [.ref a0, .int a3]) E Y_X1_passDays k_X1_69 (c_X1_passDays (z_El E) e121) dX1_perform_187 rfl rfl (by decide) (by decide) (by decide) (by decide) (Nat.zero_le _)) rfl rfl rfl ?_
    obtain rfl := Option.some.inj e
    exact z_iret E M dX1_perform_190 rfl rfl rfl rfl (by decide) (by decide)
  cases e
theorem c_X1_perform {l : Launch} (hl : l.stackTraces = false) {h : PH} {a0 : Nat} {a1 : Nat} {a2 : Int32} {a3 : Int32} {a4 : Int32} {a5 : Int32} {r : (Int32 × PH)} (e : f_X1_perform h a0 a1 a2 a3 a4 a5 = some r) : CMet l yX1_perform (z_W yX1_perform cX1_perform 6 (some .int)) rmX1_perform h [.ref a0, .ref a1, .int a2, .int a3, .int a4, .int a5] (.inr (some (.int r.1))) r.2 :=
  z_met hl Y_X1_perform (by decide +kernel) (Nat.le_of_ble_eq_true rfl) (fun X hX E T0 M => b_X1_perform E T0 e M)
abbrev rmX9_change : Room := { frames := 7, cells := 12, slots := 117, locals := 121 }
noncomputable def f_X9_change_J40 (h : PH) (v0 : Nat) (v1 : Int32) (v2 : Int32) (v3 : Int32) (v4 : Int32) (v5 : Int32) : Option ((String ⊕ Int32) × PH) :=
  Sum.elim
    (fun E1 =>
    some ((Sum.inl E1), h))
    (fun y3 =>
    (rdR h v0 11 2).bind fun x4 =>
    (rdR h v0 11 0).bind fun x6 =>
    (gd h x4 7).bind fun _ =>
    (f_X4_remember h x4 x6).bind fun p9 =>
    (rdR p9 v0 11 0).bind fun x11 =>
    (rdR p9 v0 11 3).bind fun x13 =>
    (f_X1_perform p9 x11 x13 v1 v2 v3 v4).bind fun p15 =>
    some ((Sum.inr p15.1), p15.2)) (f_X9_refuse v5)
theorem b_X9_change_J40 {X : PX} (E : z_E X cX9_change RX9 "change" 6 rmX9_change (some .int)) (T0 : z_T0 X) {k n : Nat} (hk : k + 12 ≤ rmX9_change.cells) (hn : n + 117 ≤ rmX9_change.slots) {h : PH} {v0 : Nat} {v1 : Int32} {v2 : Int32} {v3 : Int32} {v4 : Int32} {v5 : Int32} {r : ((String ⊕ Int32) × PH)} (e : f_X9_change_J40 h v0 v1 v2 v3 v4 v5 = some r) (M : z_M X rmX9_change.cells rmX9_change.slots (zoI r.1) r.2) : WP X 6 k n 40 [(0, .ref v0), (1, .int v1), (2, .int v2), (3, .int v3), (4, .int v4), (5, .int v5)] [] h := by
  unfold f_X9_change_J40 at e
  refine z_iload E 5 dX9_change_40 rfl ?_
  rcases os e with ⟨E1, c2, e⟩ | ⟨y3, c2, e⟩
  · obtain rfl := Option.some.inj e
    refine z_kX2 (st := []) (av := [.int v5]) E (k + 1) (n + 6) (z_rS (st := []) (av := [.int v5]) E Y_X9_refuse k_X9_323 (zc_o (c_X9_refuse (l := z_l X) (h := h) (z_El E) v5) (by rw [c2]; rfl)) dX9_change_42 rfl rfl (by decide) (by decide) (zk (k := k) (a := 1) hk (by decide)) (zk (k := n) (a := 6) hn (by decide)) (Nat.zero_le _)) rfl rfl rfl ?_
    exact z_outX E T0 M rfl rfl (zk (k := k) (a := 1) hk (by decide)) (zk (k := n) (a := 6) hn (by decide))
  · refine z_kV2 (st := []) (av := [.int v5]) E (k + 1) (n + 6) (z_rS (st := []) (av := [.int v5]) E Y_X9_refuse k_X9_323 (zc_o (c_X9_refuse (l := z_l X) (h := h) (z_El E) v5) (by rw [c2]; rfl)) dX9_change_42 rfl rfl (by decide) (by decide) (zk (k := k) (a := 1) hk (by decide)) (zk (k := n) (a := 6) hn (by decide)) (Nat.zero_le _)) rfl rfl rfl ?_
    refine z_aload_n E 0 dX9_change_45 rfl ?_
    obtain ⟨x4, e5, e⟩ := ob e
    refine z_getR E fl_X9_22 dX9_change_46 e5 ?_
    refine z_aload_n E 0 dX9_change_49 rfl ?_
    obtain ⟨x6, e7, e⟩ := ob e
    refine z_getR E fl_X9_12 dX9_change_50 e7 ?_
    obtain ⟨_, e8, e⟩ := ob e
    obtain ⟨p9, e10, e⟩ := ob e
    refine z_kV2 (st := []) (av := [.ref x4, .ref x6]) E (k + 12) (n + 117) (z_rV (st := []) (av := [.ref x6]) E Y_X4_remember k_X9_256 (ci := 7) rfl (c_X4_remember (z_El E) e10) dX9_change_53 e8 rfl rfl (by decide) (by decide) (zk (k := k) (a := 12) hk (by decide)) (zk (k := n) (a := 117) hn (by decide)) (Nat.zero_le _)) rfl rfl rfl ?_
    refine z_aload_n E 0 dX9_change_56 rfl ?_
    obtain ⟨x11, e12, e⟩ := ob e
    refine z_getR E fl_X9_12 dX9_change_57 e12 ?_
    refine z_aload_n E 0 dX9_change_60 rfl ?_
    obtain ⟨x13, e14, e⟩ := ob e
    refine z_getR E fl_X9_29 dX9_change_61 e14 ?_
    refine z_iload_n E 1 dX9_change_64 rfl ?_
    refine z_iload_n E 2 dX9_change_65 rfl ?_
    refine z_iload_n E 3 dX9_change_66 rfl ?_
    refine z_iload E 4 dX9_change_67 rfl ?_
    obtain ⟨p15, e16, e⟩ := ob e
    refine z_kR2 (st := []) (av := [.ref x11, .ref x13, .int v1, .int v2, .int v3, .int v4]) E (k + 12) (n + 117) (z_rS (st := []) (av := [.ref x11, .ref x13, .int v1, .int v2, .int v3, .int v4]) E Y_X1_perform k_X9_326 (c_X1_perform (z_El E) e16) dX9_change_69 rfl rfl (by decide) (by decide) (zk (k := k) (a := 12) hk (by decide)) (zk (k := n) (a := 117) hn (by decide)) (Nat.zero_le _)) rfl rfl rfl ?_
    obtain rfl := Option.some.inj e
    exact z_iret E M dX9_change_72 rfl rfl rfl rfl (zk (k := k) (a := 12) hk (by decide)) (zk (k := n) (a := 117) hn (by decide))
noncomputable def f_X9_change (h : PH) (a0 : Nat) (a1 : Int32) (a2 : Int32) (a3 : Int32) (a4 : Int32) : Option ((String ⊕ Int32) × PH) :=
  (rdR h a0 11 0).bind fun x1 =>
  (f_X5_judge h x1 a1 a2 a3 a4).bind fun p3 =>
  if p3 ≤ 0 then
    f_X9_change_J40 h a0 a1 a2 a3 a4 p3
  else
    (rdR h a0 11 6).bind fun x6 =>
    (rdR h a0 11 0).bind fun x8 =>
    (f_X5_detailOf h x8 p3 a1 a2).bind fun p10 =>
    (gd h x6 5).bind fun _ =>
    (f_X2_keep h x6 p3 p10 (0 : Int32)).bind fun p13 =>
    f_X9_change_J40 p13 a0 a1 a2 a3 a4 p3
theorem b_X9_change {X : PX} (E : z_E X cX9_change RX9 "change" 6 rmX9_change (some .int)) (T0 : z_T0 X) {h : PH} {a0 : Nat} {a1 : Int32} {a2 : Int32} {a3 : Int32} {a4 : Int32} {r : ((String ⊕ Int32) × PH)} (e : f_X9_change h a0 a1 a2 a3 a4 = some r) (M : z_M X rmX9_change.cells rmX9_change.slots (zoI r.1) r.2) : WP X 6 0 0 0 [(0, .ref a0), (1, .int a1), (2, .int a2), (3, .int a3), (4, .int a4)] [] h := by
  unfold f_X9_change at e
  refine z_aload_n E 0 dX9_change_0 rfl ?_
  obtain ⟨x1, e2, e⟩ := ob e
  refine z_getR E fl_X9_12 dX9_change_1 e2 ?_
  refine z_iload_n E 1 dX9_change_4 rfl ?_
  refine z_iload_n E 2 dX9_change_5 rfl ?_
  refine z_iload_n E 3 dX9_change_6 rfl ?_
  refine z_iload E 4 dX9_change_7 rfl ?_
  obtain ⟨p3, e4, e⟩ := ob e
  refine z_kR2 (st := []) (av := [.ref x1, .int a1, .int a2, .int a3, .int a4]) E 0 0 (z_rS (st := []) (av := [.ref x1, .int a1, .int a2, .int a3, .int a4]) E Y_X5_judge k_X9_313 (c_X5_judge (z_El E) e4) dX9_change_9 rfl rfl (by decide) (by decide) (by decide) (by decide) (Nat.zero_le _)) rfl rfl rfl ?_
  refine z_istore (lv2 := [(5, .int p3), (0, .ref a0), (1, .int a1), (2, .int a2), (3, .int a3), (4, .int a4)]) E dX9_change_12 (by decide) rfl ?_
  refine z_iload E 0 dX9_change_14 rfl ?_
  rcases oi e with ⟨c5, e⟩ | ⟨c5, e⟩
  · refine z_if_leT (tgt := 40) E dX9_change_16 rfl c5 ?_
    exact z_sub [1, 2, 3, 4, 5, 0] rfl (b_X9_change_J40 E T0 (by decide) (by decide) e M)
  · refine z_if_leF (tgt := 40) E dX9_change_16 rfl c5 ?_
    refine z_aload_n E 1 dX9_change_19 rfl ?_
    obtain ⟨x6, e7, e⟩ := ob e
    refine z_getR E fl_X9_50 dX9_change_20 e7 ?_
    refine z_iload E 0 dX9_change_23 rfl ?_
    refine z_aload_n E 1 dX9_change_25 rfl ?_
    obtain ⟨x8, e9, e⟩ := ob e
    refine z_getR E fl_X9_12 dX9_change_26 e9 ?_
    refine z_iload E 0 dX9_change_29 rfl ?_
    refine z_iload_n E 2 dX9_change_31 rfl ?_
    refine z_iload_n E 3 dX9_change_32 rfl ?_
    obtain ⟨p10, e11, e⟩ := ob e
    refine z_kR2 (st := [.int p3, .ref x6]) (av := [.ref x8, .int p3, .int a1, .int a2]) E 0 0 (z_rS (st := [.int p3, .ref x6]) (av := [.ref x8, .int p3, .int a1, .int a2]) E Y_X5_detailOf k_X9_319 (c_X5_detailOf (z_El E) e11) dX9_change_33 rfl rfl (by decide) (by decide) (by decide) (by decide) (Nat.le_of_ble_eq_true rfl)) rfl rfl rfl ?_
    refine z_iconst E dX9_change_36 ic_0 ?_
    obtain ⟨_, e12, e⟩ := ob e
    obtain ⟨p13, e14, e⟩ := ob e
    refine z_kV2 (st := []) (av := [.ref x6, .int p3, .int p10, .int (0 : Int32)]) E 0 0 (z_rV (st := []) (av := [.int p3, .int p10, .int (0 : Int32)]) E Y_X2_keep k_X9_247 (ci := 5) rfl (c_X2_keep (z_El E) e14) dX9_change_37 e12 rfl rfl (by decide) (by decide) (by decide) (by decide) (Nat.zero_le _)) rfl rfl rfl ?_
    exact z_sub [1, 2, 3, 4, 5, 0] rfl (b_X9_change_J40 E T0 (by decide) (by decide) e M)
theorem c_X9_change {l : Launch} (hl : l.stackTraces = false) {h : PH} {a0 : Nat} {a1 : Int32} {a2 : Int32} {a3 : Int32} {a4 : Int32} {r : ((String ⊕ Int32) × PH)} (e : f_X9_change h a0 a1 a2 a3 a4 = some r) : CMet l yX9_change (z_W yX9_change cX9_change 6 (some .int)) rmX9_change h [.ref a0, .int a1, .int a2, .int a3, .int a4] (zoI r.1) r.2 :=
  z_met hl Y_X9_change (by decide +kernel) (Nat.le_of_ble_eq_true rfl) (fun X hX E T0 M => b_X9_change E T0 e M)
abbrev rmX9_addNote : Room := { frames := 8, cells := 12, slots := 117, locals := 146 }
noncomputable def f_X9_addNote (h : PH) (a0 : Nat) (a1 : Int32) (a2 : Int32) : Option ((String ⊕ Int32) × PH) :=
  (gd h a0 11).bind fun _ =>
  (f_X9_change h a0 (0 : Int32) a1 a2 (0 : Int32)).bind fun p2 =>
  Sum.elim
    (fun E4 =>
    some ((Sum.inl E4), p2.2))
    (fun y6 =>
    some ((Sum.inr y6), p2.2)) p2.1
theorem b_X9_addNote {X : PX} (E : z_E X cX9_addNote RX9 "addNote" 3 rmX9_addNote (some .int)) (T0 : z_T0 X) {h : PH} {a0 : Nat} {a1 : Int32} {a2 : Int32} {r : ((String ⊕ Int32) × PH)} (e : f_X9_addNote h a0 a1 a2 = some r) (M : z_M X rmX9_addNote.cells rmX9_addNote.slots (zoI r.1) r.2) : WP X 3 0 0 0 [(0, .ref a0), (1, .int a1), (2, .int a2)] [] h := by
  unfold f_X9_addNote at e
  refine z_aload_n E 0 dX9_addNote_0 rfl ?_
  refine z_iconst E dX9_addNote_1 ic_0 ?_
  refine z_iload_n E 1 dX9_addNote_2 rfl ?_
  refine z_iload_n E 2 dX9_addNote_3 rfl ?_
  refine z_iconst E dX9_addNote_4 ic_0 ?_
  obtain ⟨_, e1, e⟩ := ob e
  obtain ⟨p2, e3, e⟩ := ob e
  rcases os e with ⟨E4, c5, e⟩ | ⟨y6, c5, e⟩
  · obtain rfl := Option.some.inj e
    refine z_kX2 (st := []) (av := [.ref a0, .int (0 : Int32), .int a1, .int a2, .int (0 : Int32)]) E 12 117 (z_rV (st := []) (av := [.int (0 : Int32), .int a1, .int a2, .int (0 : Int32)]) E Y_X9_change k_X9_61 (ci := 11) rfl (zc_o (c_X9_change (z_El E) e3) (by rw [c5]; rfl)) dX9_addNote_5 e1 rfl rfl (by decide) (by decide) (by decide) (by decide) (Nat.zero_le _)) rfl rfl rfl ?_
    exact z_outX E T0 M rfl rfl (by decide) (by decide)
  · refine z_kR2 (st := []) (av := [.ref a0, .int (0 : Int32), .int a1, .int a2, .int (0 : Int32)]) E 12 117 (z_rV (st := []) (av := [.int (0 : Int32), .int a1, .int a2, .int (0 : Int32)]) E Y_X9_change k_X9_61 (ci := 11) rfl (zc_o (c_X9_change (z_El E) e3) (by rw [c5]; rfl)) dX9_addNote_5 e1 rfl rfl (by decide) (by decide) (by decide) (by decide) (Nat.zero_le _)) rfl rfl rfl ?_
    obtain rfl := Option.some.inj e
    exact z_iret E M dX9_addNote_8 rfl rfl rfl rfl (by decide) (by decide)
theorem c_X9_addNote {l : Launch} (hl : l.stackTraces = false) {h : PH} {a0 : Nat} {a1 : Int32} {a2 : Int32} {r : ((String ⊕ Int32) × PH)} (e : f_X9_addNote h a0 a1 a2 = some r) : CMet l yX9_addNote (z_W yX9_addNote cX9_addNote 3 (some .int)) rmX9_addNote h [.ref a0, .int a1, .int a2] (zoI r.1) r.2 :=
  z_met hl Y_X9_addNote (by decide +kernel) (Nat.le_of_ble_eq_true rfl) (fun X hX E T0 M => b_X9_addNote E T0 e M)
abbrev rmL_addNote : Room := { frames := 9, cells := 12, slots := 117, locals := 168 }
noncomputable def f_L_addNote (h : PH) (a0 : Nat) (a1 : Int32) (a2 : Int32) (a3 : Nat) : Option (Int32 × PH) :=
  (gd h a0 11).bind fun _ =>
  (f_X9_addNote h a0 a1 a2).bind fun p2 =>
  Sum.elim
    (fun E4 =>
    if E4 = "java/lang/IllegalArgumentException" then
      some ((1 : Int32), p2.2)
    else if E4 = "java/lang/UnsupportedOperationException" then
      some ((2 : Int32), p2.2)
    else none)
    (fun y6 =>
    (asL p2.2 a3 (0 : Int32) y6.toInt64).bind fun h9 =>
    some ((0 : Int32), h9)) p2.1
theorem b_L_addNote {X : PX} (E : z_E X cL_addNote RL "addNote" 5 rmL_addNote (some .int)) (TT : z_TT X [(0, 10, 13, 13), (0, 10, 17, 15)]) {h : PH} {a0 : Nat} {a1 : Int32} {a2 : Int32} {a3 : Nat} {r : (Int32 × PH)} (e : f_L_addNote h a0 a1 a2 a3 = some r) (M : z_M X rmL_addNote.cells rmL_addNote.slots (.inr (some (.int r.1))) r.2) : WP X 5 0 0 0 [(0, .ref a0), (1, .int a1), (2, .int a2), (3, .ref a3)] [] h := by
  unfold f_L_addNote at e
  refine z_aload_n E 3 dL_addNote_0 rfl ?_
  refine z_iconst E dL_addNote_1 ic_0 ?_
  refine z_aload_n E 0 dL_addNote_2 rfl ?_
  refine z_iload_n E 1 dL_addNote_3 rfl ?_
  refine z_iload_n E 2 dL_addNote_4 rfl ?_
  obtain ⟨_, e1, e⟩ := ob e
  obtain ⟨p2, e3, e⟩ := ob e
  rcases os e with ⟨E4, c5, e⟩ | ⟨y6, c5, e⟩
  · rcases oi e with ⟨c7, e⟩ | ⟨c7, e⟩
    · subst c7
      refine z_kX2 (st := [.int (0 : Int32), .ref a3]) (av := [.ref a0, .int a1, .int a2]) E 12 117 (z_rV (st := [.int (0 : Int32), .ref a3]) (av := [.int a1, .int a2]) E Y_X9_addNote k_L_7 (ci := 11) rfl (zc_o (c_X9_addNote (z_El E) e3) (by rw [c5]; rfl)) dL_addNote_5 e1 rfl rfl (by decide) (by decide) (by decide) (by decide) (Nat.le_of_ble_eq_true rfl)) rfl rfl rfl ?_
      refine z_catch (lv2 := [(0, .ref a0), (1, .int a1), (2, .int a2), (3, .ref a3)]) E TT 0 (q := (0, 10, 13, 13)) rfl rfl (by decide) cl_L_13 kb_IllegalArgumentException (fun z hz => nomatch hz) (Or.inr ⟨dL_addNote_13, rfl⟩) (by decide) rfl ?_
      refine z_iconst E dL_addNote_15 ic_1 ?_
      obtain rfl := Option.some.inj e
      exact z_iret E M dL_addNote_16 rfl rfl rfl rfl (by decide) (by decide)
    rcases oi e with ⟨c8, e⟩ | ⟨c8, e⟩
    · subst c8
      refine z_kX2 (st := [.int (0 : Int32), .ref a3]) (av := [.ref a0, .int a1, .int a2]) E 12 117 (z_rV (st := [.int (0 : Int32), .ref a3]) (av := [.int a1, .int a2]) E Y_X9_addNote k_L_7 (ci := 11) rfl (zc_o (c_X9_addNote (z_El E) e3) (by rw [c5]; rfl)) dL_addNote_5 e1 rfl rfl (by decide) (by decide) (by decide) (by decide) (Nat.le_of_ble_eq_true rfl)) rfl rfl rfl ?_
      refine z_catch (lv2 := [(0, .ref a0), (1, .int a1), (2, .int a2), (3, .ref a3)]) E TT 1 (q := (0, 10, 17, 15)) rfl rfl (by decide) cl_L_15 kb_UnsupportedOperationException (List.forall_mem_cons.mpr ⟨⟨by decide, "java/lang/IllegalArgumentException", cl_L_13, nc_UnsupportedOperationException_IllegalArgumentException⟩, (fun z hz => nomatch hz)⟩) (Or.inr ⟨dL_addNote_17, rfl⟩) (by decide) rfl ?_
      refine z_iconst E dL_addNote_19 ic_2 ?_
      obtain rfl := Option.some.inj e
      exact z_iret E M dL_addNote_20 rfl rfl rfl rfl (by decide) (by decide)
    cases e
  · refine z_kR2 (st := [.int (0 : Int32), .ref a3]) (av := [.ref a0, .int a1, .int a2]) E 12 117 (z_rV (st := [.int (0 : Int32), .ref a3]) (av := [.int a1, .int a2]) E Y_X9_addNote k_L_7 (ci := 11) rfl (zc_o (c_X9_addNote (z_El E) e3) (by rw [c5]; rfl)) dL_addNote_5 e1 rfl rfl (by decide) (by decide) (by decide) (by decide) (Nat.le_of_ble_eq_true rfl)) rfl rfl rfl ?_
    refine z_i2l (v := y6.toInt64) E dL_addNote_8 rfl ?_
    obtain ⟨h9, e10, e⟩ := ob e
    refine z_last E dL_addNote_9 e10 ?_
    refine z_goto (tgt := 21) E dL_addNote_10 rfl ?_
    refine z_iconst E dL_addNote_21 ic_0 ?_
    obtain rfl := Option.some.inj e
    exact z_iret E M dL_addNote_22 rfl rfl rfl rfl (by decide) (by decide)
theorem c_L_addNote {l : Launch} (hl : l.stackTraces = false) {h : PH} {a0 : Nat} {a1 : Int32} {a2 : Int32} {a3 : Nat} {r : (Int32 × PH)} (e : f_L_addNote h a0 a1 a2 a3 = some r) : CMet l yL_addNote (z_WH yL_addNote cL_addNote 5 (some .int) [(0, 10, 13, 13), (0, 10, 17, 15)]) rmL_addNote h [.ref a0, .int a1, .int a2, .ref a3] (.inr (some (.int r.1))) r.2 :=
  z_metH hl Y_L_addNote (by decide +kernel) (Nat.le_of_ble_eq_true rfl) (fun X hX E T0 M => b_L_addNote E T0 e M)
abbrev rmX10_in : Room := { frames := 0, cells := 0, slots := 0, locals := 0 }
noncomputable def f_X10_in (a0 : Int32) (a1 : Int32) (a2 : Int32) : Bool :=
  if a0 < a1 then
    false
  else
    if a2 < a0 then
      false
    else
      true
theorem b_X10_in {X : PX} (E : z_E X cX10_in RX10 "in" 3 rmX10_in (some .boolean)) (T0 : z_T0 X) {h : PH} {a0 : Int32} {a1 : Int32} {a2 : Int32} {r : Bool} (e : f_X10_in a0 a1 a2 = r) (M : z_M X rmX10_in.cells rmX10_in.slots (.inr (some (.int (zb r)))) h) : WP X 3 0 0 0 [(0, .int a0), (1, .int a1), (2, .int a2)] [] h := by
  unfold f_X10_in at e
  refine z_iload_n E 0 dX10_in_0 rfl ?_
  refine z_iload_n E 1 dX10_in_1 rfl ?_
  rcases oi e with ⟨c1, e⟩ | ⟨c1, e⟩
  · refine z_icmp_ltT (tgt := 14) E dX10_in_2 rfl c1 ?_
    refine z_iconst E dX10_in_14 ic_0 ?_
    subst e
    exact z_iret E M dX10_in_15 rfl rfl rfl rfl (by decide) (by decide)
  · refine z_icmp_ltF (tgt := 14) E dX10_in_2 rfl c1 ?_
    refine z_iload_n E 0 dX10_in_5 rfl ?_
    refine z_iload_n E 2 dX10_in_6 rfl ?_
    rcases oi e with ⟨c2, e⟩ | ⟨c2, e⟩
    · refine z_icmp_gtT (tgt := 14) E dX10_in_7 rfl c2 ?_
      refine z_iconst E dX10_in_14 ic_0 ?_
      subst e
      exact z_iret E M dX10_in_15 rfl rfl rfl rfl (by decide) (by decide)
    · refine z_icmp_gtF (tgt := 14) E dX10_in_7 rfl c2 ?_
      refine z_iconst E dX10_in_10 ic_1 ?_
      refine z_goto (tgt := 15) E dX10_in_11 rfl ?_
      subst e
      exact z_iret E M dX10_in_15 rfl rfl rfl rfl (by decide) (by decide)
theorem c_X10_in {l : Launch} (hl : l.stackTraces = false) {h : PH} (a0 : Int32) (a1 : Int32) (a2 : Int32) : CMet l yX10_in (z_W yX10_in cX10_in 3 (some .boolean)) rmX10_in h [.int a0, .int a1, .int a2] (.inr (some (.int (zb (f_X10_in a0 a1 a2))))) h :=
  z_met hl Y_X10_in (by decide +kernel) (Nat.le_of_ble_eq_true rfl) (fun X hX E T0 M => b_X10_in E T0 rfl M)
abbrev rmX10_isPage : Room := { frames := 1, cells := 0, slots := 0, locals := 22 }
noncomputable def f_X10_isPage (a0 : Int32) : Bool :=
  (f_X10_in a0 (0 : Int32) (11 : Int32))
theorem b_X10_isPage {X : PX} (E : z_E X cX10_isPage RX10 "isPage" 1 rmX10_isPage (some .boolean)) (T0 : z_T0 X) {h : PH} {a0 : Int32} {r : Bool} (e : f_X10_isPage a0 = r) (M : z_M X rmX10_isPage.cells rmX10_isPage.slots (.inr (some (.int (zb r)))) h) : WP X 1 0 0 0 [(0, .int a0)] [] h := by
  unfold f_X10_isPage at e
  refine z_iload_n E 0 dX10_isPage_0 rfl ?_
  refine z_iconst E dX10_isPage_1 ic_0 ?_
  refine z_bipush E dX10_isPage_2 bp_11 ?_
  refine z_kR2 (st := []) (av := [.int a0, .int (0 : Int32), .int (11 : Int32)]) E 0 0 (z_rS (st := []) (av := [.int a0, .int (0 : Int32), .int (11 : Int32)]) E Y_X10_in k_X10_62 (c_X10_in (l := z_l X) (h := h) (z_El E) a0 (0 : Int32) (11 : Int32)) dX10_isPage_4 rfl rfl (by decide) (by decide) (by decide) (by decide) (Nat.zero_le _)) rfl rfl rfl ?_
  subst e
  exact z_iret E M dX10_isPage_7 rfl (zb_nar _) rfl rfl (by decide) (by decide)
theorem c_X10_isPage {l : Launch} (hl : l.stackTraces = false) {h : PH} (a0 : Int32) : CMet l yX10_isPage (z_W yX10_isPage cX10_isPage 1 (some .boolean)) rmX10_isPage h [.int a0] (.inr (some (.int (zb (f_X10_isPage a0))))) h :=
  z_met hl Y_X10_isPage (by decide +kernel) (Nat.le_of_ble_eq_true rfl) (fun X hX E T0 M => b_X10_isPage E T0 rfl M)
abbrev rmX10_fails : Room := { frames := 0, cells := 0, slots := 0, locals := 0 }
noncomputable def f_X10_fails (h : PH) (a0 : Nat) (a1 : Int32) : Option (Bool × PH) :=
  (wr h a0 12 8 (.int a1)).bind fun h1 =>
  (wr h1 a0 12 7 (.int (0 : Int32))).bind fun h3 =>
  if a1 ≤ 0 then
    some (false, h3)
  else
    some (true, h3)
theorem b_X10_fails {X : PX} (E : z_E X cX10_fails RX10 "fails" 2 rmX10_fails (some .boolean)) (T0 : z_T0 X) {h : PH} {a0 : Nat} {a1 : Int32} {r : (Bool × PH)} (e : f_X10_fails h a0 a1 = some r) (M : z_M X rmX10_fails.cells rmX10_fails.slots (.inr (some (.int (zb r.1)))) r.2) : WP X 2 0 0 0 [(0, .ref a0), (1, .int a1)] [] h := by
  unfold f_X10_fails at e
  refine z_aload_n E 0 dX10_fails_0 rfl ?_
  refine z_iload_n E 1 dX10_fails_1 rfl ?_
  obtain ⟨h1, e2, e⟩ := ob e
  refine z_putI E fp_X10_36 (Or.inl rfl) dX10_fails_2 e2 ?_
  refine z_aload_n E 0 dX10_fails_5 rfl ?_
  refine z_iconst E dX10_fails_6 ic_0 ?_
  obtain ⟨h3, e4, e⟩ := ob e
  refine z_putV E fp_X10_39 (Or.inl rfl) dX10_fails_7 e4 (fun _ => ⟨rfl, rfl⟩) ?_
  refine z_iload_n E 1 dX10_fails_10 rfl ?_
  rcases oi e with ⟨c5, e⟩ | ⟨c5, e⟩
  · refine z_if_leT (tgt := 18) E dX10_fails_11 rfl c5 ?_
    refine z_iconst E dX10_fails_18 ic_0 ?_
    obtain rfl := Option.some.inj e
    exact z_iret E M dX10_fails_19 rfl rfl rfl rfl (by decide) (by decide)
  · refine z_if_leF (tgt := 18) E dX10_fails_11 rfl c5 ?_
    refine z_iconst E dX10_fails_14 ic_1 ?_
    refine z_goto (tgt := 19) E dX10_fails_15 rfl ?_
    obtain rfl := Option.some.inj e
    exact z_iret E M dX10_fails_19 rfl rfl rfl rfl (by decide) (by decide)
theorem c_X10_fails {l : Launch} (hl : l.stackTraces = false) {h : PH} {a0 : Nat} {a1 : Int32} {r : (Bool × PH)} (e : f_X10_fails h a0 a1 = some r) : CMet l yX10_fails (z_W yX10_fails cX10_fails 2 (some .boolean)) rmX10_fails h [.ref a0, .int a1] (.inr (some (.int (zb r.1)))) r.2 :=
  z_met hl Y_X10_fails (by decide +kernel) (Nat.le_of_ble_eq_true rfl) (fun X hX E T0 M => b_X10_fails E T0 e M)
abbrev rmX10_denies : Room := { frames := 0, cells := 0, slots := 0, locals := 0 }
noncomputable def f_X10_denies (h : PH) (a0 : Nat) (a1 : Int32) (a2 : Int32) (a3 : Int32) : Option (Int32 × PH) :=
  (wr h a0 12 8 (.int a1)).bind fun h1 =>
  (wr h1 a0 12 7 (.int (1 : Int32))).bind fun h3 =>
  (wr h3 a0 12 9 (.int a2)).bind fun h5 =>
  (wr h5 a0 12 10 (.int a3)).bind fun h7 =>
  (wr h7 a0 12 11 (.int (0 : Int32))).bind fun h9 =>
  some ((0 : Int32), h9)
theorem b_X10_denies {X : PX} (E : z_E X cX10_denies RX10 "denies" 4 rmX10_denies (some .int)) (T0 : z_T0 X) {h : PH} {a0 : Nat} {a1 : Int32} {a2 : Int32} {a3 : Int32} {r : (Int32 × PH)} (e : f_X10_denies h a0 a1 a2 a3 = some r) (M : z_M X rmX10_denies.cells rmX10_denies.slots (.inr (some (.int r.1))) r.2) : WP X 4 0 0 0 [(0, .ref a0), (1, .int a1), (2, .int a2), (3, .int a3)] [] h := by
  unfold f_X10_denies at e
  refine z_aload_n E 0 dX10_denies_0 rfl ?_
  refine z_iload_n E 1 dX10_denies_1 rfl ?_
  obtain ⟨h1, e2, e⟩ := ob e
  refine z_putI E fp_X10_36 (Or.inl rfl) dX10_denies_2 e2 ?_
  refine z_aload_n E 0 dX10_denies_5 rfl ?_
  refine z_iconst E dX10_denies_6 ic_1 ?_
  obtain ⟨h3, e4, e⟩ := ob e
  refine z_putV E fp_X10_39 (Or.inl rfl) dX10_denies_7 e4 (fun _ => ⟨rfl, rfl⟩) ?_
  refine z_aload_n E 0 dX10_denies_10 rfl ?_
  refine z_iload_n E 2 dX10_denies_11 rfl ?_
  obtain ⟨h5, e6, e⟩ := ob e
  refine z_putI E fp_X10_43 (Or.inl rfl) dX10_denies_12 e6 ?_
  refine z_aload_n E 0 dX10_denies_15 rfl ?_
  refine z_iload_n E 3 dX10_denies_16 rfl ?_
  obtain ⟨h7, e8, e⟩ := ob e
  refine z_putI E fp_X10_46 (Or.inl rfl) dX10_denies_17 e8 ?_
  refine z_aload_n E 0 dX10_denies_20 rfl ?_
  refine z_iconst E dX10_denies_21 ic_0 ?_
  obtain ⟨h9, e10, e⟩ := ob e
  refine z_putI E fp_X10_49 (Or.inl rfl) dX10_denies_22 e10 ?_
  refine z_iconst E dX10_denies_25 ic_0 ?_
  obtain rfl := Option.some.inj e
  exact z_iret E M dX10_denies_26 rfl rfl rfl rfl (by decide) (by decide)
theorem c_X10_denies {l : Launch} (hl : l.stackTraces = false) {h : PH} {a0 : Nat} {a1 : Int32} {a2 : Int32} {a3 : Int32} {r : (Int32 × PH)} (e : f_X10_denies h a0 a1 a2 a3 = some r) : CMet l yX10_denies (z_W yX10_denies cX10_denies 4 (some .int)) rmX10_denies h [.ref a0, .int a1, .int a2, .int a3] (.inr (some (.int r.1))) r.2 :=
  z_met hl Y_X10_denies (by decide +kernel) (Nat.le_of_ble_eq_true rfl) (fun X hX E T0 M => b_X10_denies E T0 e M)
abbrev rmX10_copies : Room := { frames := 0, cells := 0, slots := 0, locals := 0 }
noncomputable def f_X10_copies_L3 : Nat → PH → Nat → Int32 → Nat → Int32 → Int32 → Option PH
  | 0, _, _, _, _, _, _ => none
  | fu + 1, h, v0, v1, v2, v3, v4 =>
    if (99 : Int32) ≤ v4 then
      some h
    else
      (alI .int h v0 (v1 + v4)).bind fun x2 =>
      (asI .int h v2 (v3 + v4) x2).bind fun h4 =>
      f_X10_copies_L3 fu h4 v0 v1 v2 v3 (v4 + (1 : Int32))
theorem b_X10_copies_L3 {X : PX} (E : z_E X cX10_copies RX10 "copies" 5 rmX10_copies none) (T0 : z_T0 X) {k n : Nat} (hk : k + 0 ≤ rmX10_copies.cells) (hn : n + 0 ≤ rmX10_copies.slots) {s : PH} : ∀ (fu : Nat) (h : PH) (v0 : Nat) (v1 : Int32) (v2 : Nat) (v3 : Int32) (v4 : Int32) (e : f_X10_copies_L3 fu h v0 v1 v2 v3 v4 = some s) (kk : WP X 5 k n 28 [] [] s), WP X 5 k n 3 [(0, .ref v0), (1, .int v1), (2, .ref v2), (3, .int v3), (4, .int v4)] [] h := by
  intro fu
  induction fu with
  | zero => intro h v0 v1 v2 v3 v4 e; exact absurd (show (none : Option PH) = some s from e) (by intro z; cases z)
  | succ fu ih =>
    intro h v0 v1 v2 v3 v4 e kk
    unfold f_X10_copies_L3 at e
    refine z_iload E 4 dX10_copies_3 rfl ?_
    refine z_bipush E dX10_copies_5 bp_99 ?_
    rcases oi e with ⟨c1, e⟩ | ⟨c1, e⟩
    · refine z_icmp_geT (tgt := 28) E dX10_copies_7 rfl c1 ?_
      obtain rfl := Option.some.inj e
      exact z_sub [] rfl kk
    · refine z_icmp_geF (tgt := 28) E dX10_copies_7 rfl c1 ?_
      refine z_aload_n E 2 dX10_copies_10 rfl ?_
      refine z_iload_n E 3 dX10_copies_11 rfl ?_
      refine z_iload E 4 dX10_copies_12 rfl ?_
      refine z_iadd E dX10_copies_14 ?_
      refine z_aload_n E 0 dX10_copies_15 rfl ?_
      refine z_iload_n E 1 dX10_copies_16 rfl ?_
      refine z_iload E 4 dX10_copies_17 rfl ?_
      refine z_iadd E dX10_copies_19 ?_
      obtain ⟨x2, e3, e⟩ := ob e
      refine z_iald E dX10_copies_20 e3 ?_
      obtain ⟨h4, e5, e⟩ := ob e
      refine z_iast E dX10_copies_21 e5 ?_
      refine z_iinc (v := (v4 + (1 : Int32))) (lv2 := [(4, .int (v4 + (1 : Int32))), (0, .ref v0), (1, .int v1), (2, .ref v2), (3, .int v3)]) E 4 dX10_copies_22 rfl (congrArg (v4 + ·) ic_1) (by decide) rfl ?_
      refine z_goto (tgt := 3) E dX10_copies_25 rfl ?_
      exact z_sub [1, 2, 3, 4, 0] rfl (ih _ _ _ _ _ _ e kk)
noncomputable def f_X10_copies (h : PH) (a0 : Nat) (a1 : Int32) (a2 : Nat) (a3 : Int32) : Option PH :=
  (f_X10_copies_L3 FV h a0 a1 a2 a3 (0 : Int32)).bind fun s1 =>
  some s1
theorem b_X10_copies {X : PX} (E : z_E X cX10_copies RX10 "copies" 5 rmX10_copies none) (T0 : z_T0 X) {h : PH} {a0 : Nat} {a1 : Int32} {a2 : Nat} {a3 : Int32} {r : PH} (e : f_X10_copies h a0 a1 a2 a3 = some r) (M : z_M X rmX10_copies.cells rmX10_copies.slots (.inr none) r) : WP X 5 0 0 0 [(0, .ref a0), (1, .int a1), (2, .ref a2), (3, .int a3)] [] h := by
  unfold f_X10_copies at e
  refine z_iconst E dX10_copies_0 ic_0 ?_
  refine z_istore (lv2 := [(4, .int (0 : Int32)), (0, .ref a0), (1, .int a1), (2, .ref a2), (3, .int a3)]) E dX10_copies_1 (by decide) rfl ?_
  obtain ⟨s1, e2, e⟩ := ob e
  refine z_sub [1, 2, 3, 4, 0] rfl (b_X10_copies_L3 E T0 (by decide) (by decide) FV _ _ _ _ _ _ e2 ?_)
  obtain rfl := Option.some.inj e
  exact z_vret E M dX10_copies_28 rfl rfl rfl (by decide) (by decide)
theorem c_X10_copies {l : Launch} (hl : l.stackTraces = false) {h : PH} {a0 : Nat} {a1 : Int32} {a2 : Nat} {a3 : Int32} {r : PH} (e : f_X10_copies h a0 a1 a2 a3 = some r) : CMet l yX10_copies (z_W yX10_copies cX10_copies 5 none) rmX10_copies h [.ref a0, .int a1, .ref a2, .int a3] (.inr none) r :=
  z_met hl Y_X10_copies (by decide +kernel) (Nat.le_of_ble_eq_true rfl) (fun X hX E T0 M => b_X10_copies E T0 e M)
abbrev rmX10_keeps : Room := { frames := 1, cells := 0, slots := 0, locals := 24 }
noncomputable def f_X10_keeps_J62 (h : PH) (v0 : Nat) (v1 : Nat) : Option PH :=
  (rdR h v0 12 1).bind fun x1 =>
  (rdI h v0 12 5).bind fun x3 =>
  (f_X10_copies h v1 (0 : Int32) x1 ((99 : Int32) * x3)).bind fun p5 =>
  (rdI p5 v0 12 5).bind fun x7 =>
  (wr p5 v0 12 5 (.int (x7 + (1 : Int32)))).bind fun h9 =>
  some h9
theorem b_X10_keeps_J62 {X : PX} (E : z_E X cX10_keeps RX10 "keeps" 3 rmX10_keeps none) (T0 : z_T0 X) {k n : Nat} (hk : k + 0 ≤ rmX10_keeps.cells) (hn : n + 0 ≤ rmX10_keeps.slots) {h : PH} {v0 : Nat} {v1 : Nat} {r : PH} (e : f_X10_keeps_J62 h v0 v1 = some r) (M : z_M X rmX10_keeps.cells rmX10_keeps.slots (.inr none) r) : WP X 3 k n 62 [(0, .ref v0), (1, .ref v1)] [] h := by
  unfold f_X10_keeps_J62 at e
  refine z_aload_n E 1 dX10_keeps_62 rfl ?_
  refine z_iconst E dX10_keeps_63 ic_0 ?_
  refine z_aload_n E 0 dX10_keeps_64 rfl ?_
  obtain ⟨x1, e2, e⟩ := ob e
  refine z_getR E fl_X10_13 dX10_keeps_65 e2 ?_
  refine z_bipush E dX10_keeps_68 bp_99 ?_
  refine z_aload_n E 0 dX10_keeps_70 rfl ?_
  obtain ⟨x3, e4, e⟩ := ob e
  refine z_getI E fl_X10_55 dX10_keeps_71 e4 ?_
  refine z_imul E dX10_keeps_74 ?_
  obtain ⟨p5, e6, e⟩ := ob e
  refine z_kV2 (st := []) (av := [.ref v1, .int (0 : Int32), .ref x1, .int ((99 : Int32) * x3)]) E k n (z_rS (st := []) (av := [.ref v1, .int (0 : Int32), .ref x1, .int ((99 : Int32) * x3)]) E Y_X10_copies k_X10_58 (c_X10_copies (z_El E) e6) dX10_keeps_75 rfl rfl (by decide) (by decide) (zk (k := k) (a := 0) hk (by decide)) (zk (k := n) (a := 0) hn (by decide)) (Nat.zero_le _)) rfl rfl rfl ?_
  refine z_aload_n E 0 dX10_keeps_78 rfl ?_
  refine z_dup E dX10_keeps_79 rfl ?_
  obtain ⟨x7, e8, e⟩ := ob e
  refine z_getI E fl_X10_55 dX10_keeps_80 e8 ?_
  refine z_iconst E dX10_keeps_83 ic_1 ?_
  refine z_iadd E dX10_keeps_84 ?_
  obtain ⟨h9, e10, e⟩ := ob e
  refine z_putI E fp_X10_55 (Or.inl rfl) dX10_keeps_85 e10 ?_
  obtain rfl := Option.some.inj e
  exact z_vret E M dX10_keeps_88 rfl rfl rfl (zk (k := k) (a := 0) hk (by decide)) (zk (k := n) (a := 0) hn (by decide))
noncomputable def f_X10_keeps_L24 : Nat → PH → Nat → Nat → Int32 → Option PH
  | 0, _, _, _, _ => none
  | fu + 1, h, v0, v1, v2 =>
    if (693 : Int32) ≤ v2 then
      some h
    else
      (rdR h v0 12 1).bind fun x2 =>
      (rdR h v0 12 1).bind fun x4 =>
      (alI .int h x4 (v2 + (99 : Int32))).bind fun x6 =>
      (asI .int h x2 v2 x6).bind fun h8 =>
      f_X10_keeps_L24 fu h8 v0 v1 (v2 + (1 : Int32))
theorem b_X10_keeps_L24 {X : PX} (E : z_E X cX10_keeps RX10 "keeps" 3 rmX10_keeps none) (T0 : z_T0 X) {k n : Nat} (hk : k + 0 ≤ rmX10_keeps.cells) (hn : n + 0 ≤ rmX10_keeps.slots) {s : PH} : ∀ (fu : Nat) (h : PH) (v0 : Nat) (v1 : Nat) (v2 : Int32) (e : f_X10_keeps_L24 fu h v0 v1 v2 = some s) (kk : WP X 3 k n 52 [(0, .ref v0), (1, .ref v1)] [] s), WP X 3 k n 24 [(0, .ref v0), (1, .ref v1), (2, .int v2)] [] h := by
  intro fu
  induction fu with
  | zero => intro h v0 v1 v2 e; exact absurd (show (none : Option PH) = some s from e) (by intro z; cases z)
  | succ fu ih =>
    intro h v0 v1 v2 e kk
    unfold f_X10_keeps_L24 at e
    refine z_iload_n E 2 dX10_keeps_24 rfl ?_
    refine z_sipush E dX10_keeps_25 sp_693 ?_
    rcases oi e with ⟨c1, e⟩ | ⟨c1, e⟩
    · refine z_icmp_geT (tgt := 52) E dX10_keeps_28 rfl c1 ?_
      obtain rfl := Option.some.inj e
      exact z_sub [0, 1] rfl kk
    · refine z_icmp_geF (tgt := 52) E dX10_keeps_28 rfl c1 ?_
      refine z_aload_n E 0 dX10_keeps_31 rfl ?_
      obtain ⟨x2, e3, e⟩ := ob e
      refine z_getR E fl_X10_13 dX10_keeps_32 e3 ?_
      refine z_iload_n E 2 dX10_keeps_35 rfl ?_
      refine z_aload_n E 0 dX10_keeps_36 rfl ?_
      obtain ⟨x4, e5, e⟩ := ob e
      refine z_getR E fl_X10_13 dX10_keeps_37 e5 ?_
      refine z_iload_n E 2 dX10_keeps_40 rfl ?_
      refine z_bipush E dX10_keeps_41 bp_99 ?_
      refine z_iadd E dX10_keeps_43 ?_
      obtain ⟨x6, e7, e⟩ := ob e
      refine z_iald E dX10_keeps_44 e7 ?_
      obtain ⟨h8, e9, e⟩ := ob e
      refine z_iast E dX10_keeps_45 e9 ?_
      refine z_iinc (v := (v2 + (1 : Int32))) (lv2 := [(2, .int (v2 + (1 : Int32))), (0, .ref v0), (1, .ref v1)]) E 2 dX10_keeps_46 rfl (congrArg (v2 + ·) ic_1) (by decide) rfl ?_
      refine z_goto (tgt := 24) E dX10_keeps_49 rfl ?_
      exact z_sub [1, 2, 0] rfl (ih _ _ _ _ e kk)
noncomputable def f_X10_keeps (h : PH) (a0 : Nat) (a1 : Nat) : Option PH :=
  (wr h a0 12 8 (.int (0 : Int32))).bind fun h1 =>
  (rdI h1 a0 12 6).bind fun x3 =>
  if x3 = 0 then
    (rdI h1 a0 12 5).bind fun x6 =>
    if ¬ x6 = (8 : Int32) then
      f_X10_keeps_J62 h1 a0 a1
    else
      (f_X10_keeps_L24 FV h1 a0 a1 (0 : Int32)).bind fun s9 =>
      (rdI s9 a0 12 5).bind fun x11 =>
      (wr s9 a0 12 5 (.int (x11 - (1 : Int32)))).bind fun h13 =>
      f_X10_keeps_J62 h13 a0 a1
  else
    some h1
theorem b_X10_keeps {X : PX} (E : z_E X cX10_keeps RX10 "keeps" 3 rmX10_keeps none) (T0 : z_T0 X) {h : PH} {a0 : Nat} {a1 : Nat} {r : PH} (e : f_X10_keeps h a0 a1 = some r) (M : z_M X rmX10_keeps.cells rmX10_keeps.slots (.inr none) r) : WP X 3 0 0 0 [(0, .ref a0), (1, .ref a1)] [] h := by
  unfold f_X10_keeps at e
  refine z_aload_n E 0 dX10_keeps_0 rfl ?_
  refine z_iconst E dX10_keeps_1 ic_0 ?_
  obtain ⟨h1, e2, e⟩ := ob e
  refine z_putI E fp_X10_36 (Or.inl rfl) dX10_keeps_2 e2 ?_
  refine z_aload_n E 0 dX10_keeps_5 rfl ?_
  obtain ⟨x3, e4, e⟩ := ob e
  refine z_getI E fl_X10_52 dX10_keeps_6 e4 ?_
  rcases oi e with ⟨c5, e⟩ | ⟨c5, e⟩
  · refine z_if_eqT (tgt := 13) E dX10_keeps_9 rfl c5 ?_
    refine z_aload_n E 0 dX10_keeps_13 rfl ?_
    obtain ⟨x6, e7, e⟩ := ob e
    refine z_getI E fl_X10_55 dX10_keeps_14 e7 ?_
    refine z_bipush E dX10_keeps_17 bp_8 ?_
    rcases oi e with ⟨c8, e⟩ | ⟨c8, e⟩
    · refine z_icmp_neT (tgt := 62) E dX10_keeps_19 rfl c8 ?_
      exact z_sub [0, 1] rfl (b_X10_keeps_J62 E T0 (by decide) (by decide) e M)
    · refine z_icmp_neF (tgt := 62) E dX10_keeps_19 rfl (Classical.not_not.mp c8) ?_
      refine z_iconst E dX10_keeps_22 ic_0 ?_
      refine z_istore_n (lv2 := [(2, .int (0 : Int32)), (0, .ref a0), (1, .ref a1)]) E dX10_keeps_23 (by decide) rfl ?_
      obtain ⟨s9, e10, e⟩ := ob e
      refine z_sub [1, 2, 0] rfl (b_X10_keeps_L24 E T0 (by decide) (by decide) FV _ _ _ _ e10 ?_)
      refine z_aload_n E 0 dX10_keeps_52 rfl ?_
      refine z_dup E dX10_keeps_53 rfl ?_
      obtain ⟨x11, e12, e⟩ := ob e
      refine z_getI E fl_X10_55 dX10_keeps_54 e12 ?_
      refine z_iconst E dX10_keeps_57 ic_1 ?_
      refine z_isub E dX10_keeps_58 ?_
      obtain ⟨h13, e14, e⟩ := ob e
      refine z_putI E fp_X10_55 (Or.inl rfl) dX10_keeps_59 e14 ?_
      exact z_sub [0, 1] rfl (b_X10_keeps_J62 E T0 (by decide) (by decide) e M)
  · refine z_if_eqF (tgt := 13) E dX10_keeps_9 rfl c5 ?_
    obtain rfl := Option.some.inj e
    exact z_vret E M dX10_keeps_12 rfl rfl rfl (by decide) (by decide)
theorem c_X10_keeps {l : Launch} (hl : l.stackTraces = false) {h : PH} {a0 : Nat} {a1 : Nat} {r : PH} (e : f_X10_keeps h a0 a1 = some r) : CMet l yX10_keeps (z_W yX10_keeps cX10_keeps 3 none) rmX10_keeps h [.ref a0, .ref a1] (.inr none) r :=
  z_met hl Y_X10_keeps (by decide +kernel) (Nat.le_of_ble_eq_true rfl) (fun X hX E T0 M => b_X10_keeps E T0 e M)
abbrev rmX10_lays : Room := { frames := 0, cells := 0, slots := 0, locals := 0 }
noncomputable def f_X10_lays (h : PH) (a0 : Nat) (a1 : Int32) (a2 : Int32) (a3 : Int32) : Option PH :=
  (rdR h a0 12 0).bind fun x1 =>
  (asI .int h x1 (((44 : Int32) + ((4 : Int32) * a1)) + a2) a3).bind fun h3 =>
  some h3
theorem b_X10_lays {X : PX} (E : z_E X cX10_lays RX10 "lays" 4 rmX10_lays none) (T0 : z_T0 X) {h : PH} {a0 : Nat} {a1 : Int32} {a2 : Int32} {a3 : Int32} {r : PH} (e : f_X10_lays h a0 a1 a2 a3 = some r) (M : z_M X rmX10_lays.cells rmX10_lays.slots (.inr none) r) : WP X 4 0 0 0 [(0, .ref a0), (1, .int a1), (2, .int a2), (3, .int a3)] [] h := by
  unfold f_X10_lays at e
  refine z_aload_n E 0 dX10_lays_0 rfl ?_
  obtain ⟨x1, e2, e⟩ := ob e
  refine z_getR E fl_X10_7 dX10_lays_1 e2 ?_
  refine z_bipush E dX10_lays_4 bp_44 ?_
  refine z_iconst E dX10_lays_6 ic_4 ?_
  refine z_iload_n E 1 dX10_lays_7 rfl ?_
  refine z_imul E dX10_lays_8 ?_
  refine z_iadd E dX10_lays_9 ?_
  refine z_iload_n E 2 dX10_lays_10 rfl ?_
  refine z_iadd E dX10_lays_11 ?_
  refine z_iload_n E 3 dX10_lays_12 rfl ?_
  obtain ⟨h3, e4, e⟩ := ob e
  refine z_iast E dX10_lays_13 e4 ?_
  obtain rfl := Option.some.inj e
  exact z_vret E M dX10_lays_14 rfl rfl rfl (by decide) (by decide)
theorem c_X10_lays {l : Launch} (hl : l.stackTraces = false) {h : PH} {a0 : Nat} {a1 : Int32} {a2 : Int32} {a3 : Int32} {r : PH} (e : f_X10_lays h a0 a1 a2 a3 = some r) : CMet l yX10_lays (z_W yX10_lays cX10_lays 4 none) rmX10_lays h [.ref a0, .int a1, .int a2, .int a3] (.inr none) r :=
  z_met hl Y_X10_lays (by decide +kernel) (Nat.le_of_ble_eq_true rfl) (fun X hX E T0 M => b_X10_lays E T0 e M)
abbrev rmX10_addNote : Room := { frames := 2, cells := 0, slots := 0, locals := 46 }
noncomputable def f_X10_addNote_J23 (h : PH) (v0 : Nat) (v1 : Int32) (v2 : Int32) (w0 : Int32) (w1 : Nat) : Option (Int32 × PH) :=
  (gd h w1 12).bind fun _ =>
  (f_X10_fails h w1 w0).bind fun p2 =>
  if p2.1 = false then
    (rdR p2.2 v0 12 0).bind fun x5 =>
    (alI .int p2.2 x5 (0 : Int32)).bind fun x7 =>
    if ¬ x7 = (10 : Int32) then
      (rdR p2.2 v0 12 0).bind fun x10 =>
      (gd p2.2 v0 12).bind fun _ =>
      (f_X10_keeps p2.2 v0 x10).bind fun p13 =>
      (rdR p13 v0 12 0).bind fun x15 =>
      (alI .int p13 x15 (0 : Int32)).bind fun x17 =>
      (rdR p13 v0 12 0).bind fun x19 =>
      (alI .int p13 x19 (0 : Int32)).bind fun x21 =>
      (asI .int p13 x19 (0 : Int32) (x21 + (1 : Int32))).bind fun h23 =>
      (gd h23 v0 12).bind fun _ =>
      (f_X10_lays h23 v0 x17 (0 : Int32) v1).bind fun p26 =>
      (gd p26 v0 12).bind fun _ =>
      (f_X10_lays p26 v0 x17 (1 : Int32) v2).bind fun p29 =>
      (gd p29 v0 12).bind fun _ =>
      (f_X10_lays p29 v0 x17 (2 : Int32) (0 : Int32)).bind fun p32 =>
      (gd p32 v0 12).bind fun _ =>
      (f_X10_lays p32 v0 x17 (3 : Int32) (0 : Int32)).bind fun p35 =>
      some (x17, p35)
    else
      (gd p2.2 v0 12).bind fun _ =>
      (f_X10_denies p2.2 v0 (2 : Int32) (1 : Int32) (10 : Int32)).bind fun p38 =>
      some (p38.1, p38.2)
  else
    some ((0 : Int32), p2.2)
theorem b_X10_addNote_J23 {X : PX} (E : z_E X cX10_addNote RX10 "addNote" 4 rmX10_addNote (some .int)) (T0 : z_T0 X) {k n : Nat} (hk : k + 0 ≤ rmX10_addNote.cells) (hn : n + 0 ≤ rmX10_addNote.slots) {h : PH} {v0 : Nat} {v1 : Int32} {v2 : Int32} {w0 : Int32} {w1 : Nat} {r : (Int32 × PH)} (e : f_X10_addNote_J23 h v0 v1 v2 w0 w1 = some r) (M : z_M X rmX10_addNote.cells rmX10_addNote.slots (.inr (some (.int r.1))) r.2) : WP X 4 k n 23 [(0, .ref v0), (1, .int v1), (2, .int v2)] [.int w0, .ref w1] h := by
  unfold f_X10_addNote_J23 at e
  obtain ⟨_, e1, e⟩ := ob e
  obtain ⟨p2, e3, e⟩ := ob e
  refine z_kR2 (st := []) (av := [.ref w1, .int w0]) E k n (z_rV (st := []) (av := [.int w0]) E Y_X10_fails k_X10_70 (ci := 12) rfl (c_X10_fails (z_El E) e3) dX10_addNote_23 e1 rfl rfl (by decide) (by decide) (zk (k := k) (a := 0) hk (by decide)) (zk (k := n) (a := 0) hn (by decide)) (Nat.zero_le _)) rfl rfl rfl ?_
  rcases oi e with ⟨c4, e⟩ | ⟨c4, e⟩
  · refine z_if_eqT (tgt := 31) E dX10_addNote_26 rfl (zb_f c4) ?_
    refine z_aload_n E 0 dX10_addNote_31 rfl ?_
    obtain ⟨x5, e6, e⟩ := ob e
    refine z_getR E fl_X10_7 dX10_addNote_32 e6 ?_
    refine z_iconst E dX10_addNote_35 ic_0 ?_
    obtain ⟨x7, e8, e⟩ := ob e
    refine z_iald E dX10_addNote_36 e8 ?_
    refine z_bipush E dX10_addNote_37 bp_10 ?_
    rcases oi e with ⟨c9, e⟩ | ⟨c9, e⟩
    · refine z_icmp_neT (tgt := 51) E dX10_addNote_39 rfl c9 ?_
      refine z_aload_n E 0 dX10_addNote_51 rfl ?_
      refine z_aload_n E 0 dX10_addNote_52 rfl ?_
      obtain ⟨x10, e11, e⟩ := ob e
      refine z_getR E fl_X10_7 dX10_addNote_53 e11 ?_
      obtain ⟨_, e12, e⟩ := ob e
      obtain ⟨p13, e14, e⟩ := ob e
      refine z_kV2 (st := []) (av := [.ref v0, .ref x10]) E k n (z_rV (st := []) (av := [.ref x10]) E Y_X10_keeps k_X10_84 (ci := 12) rfl (c_X10_keeps (z_El E) e14) dX10_addNote_56 e12 rfl rfl (by decide) (by decide) (zk (k := k) (a := 0) hk (by decide)) (zk (k := n) (a := 0) hn (by decide)) (Nat.zero_le _)) rfl rfl rfl ?_
      refine z_aload_n E 0 dX10_addNote_59 rfl ?_
      obtain ⟨x15, e16, e⟩ := ob e
      refine z_getR E fl_X10_7 dX10_addNote_60 e16 ?_
      refine z_iconst E dX10_addNote_63 ic_0 ?_
      obtain ⟨x17, e18, e⟩ := ob e
      refine z_iald E dX10_addNote_64 e18 ?_
      refine z_istore_n (lv2 := [(3, .int x17), (0, .ref v0), (1, .int v1), (2, .int v2)]) E dX10_addNote_65 (by decide) rfl ?_
      refine z_aload_n E 1 dX10_addNote_66 rfl ?_
      obtain ⟨x19, e20, e⟩ := ob e
      refine z_getR E fl_X10_7 dX10_addNote_67 e20 ?_
      refine z_iconst E dX10_addNote_70 ic_0 ?_
      refine z_dup2 E dX10_addNote_71 rfl rfl ?_
      obtain ⟨x21, e22, e⟩ := ob e
      refine z_iald E dX10_addNote_72 e22 ?_
      refine z_iconst E dX10_addNote_73 ic_1 ?_
      refine z_iadd E dX10_addNote_74 ?_
      obtain ⟨h23, e24, e⟩ := ob e
      refine z_iast E dX10_addNote_75 e24 ?_
      refine z_aload_n E 1 dX10_addNote_76 rfl ?_
      refine z_iload_n E 0 dX10_addNote_77 rfl ?_
      refine z_iconst E dX10_addNote_78 ic_0 ?_
      refine z_iload_n E 2 dX10_addNote_79 rfl ?_
      obtain ⟨_, e25, e⟩ := ob e
      obtain ⟨p26, e27, e⟩ := ob e
      refine z_kV2 (st := []) (av := [.ref v0, .int x17, .int (0 : Int32), .int v1]) E k n (z_rV (st := []) (av := [.int x17, .int (0 : Int32), .int v1]) E Y_X10_lays k_X10_88 (ci := 12) rfl (c_X10_lays (z_El E) e27) dX10_addNote_80 e25 rfl rfl (by decide) (by decide) (zk (k := k) (a := 0) hk (by decide)) (zk (k := n) (a := 0) hn (by decide)) (Nat.zero_le _)) rfl rfl rfl ?_
      refine z_aload_n E 1 dX10_addNote_83 rfl ?_
      refine z_iload_n E 0 dX10_addNote_84 rfl ?_
      refine z_iconst E dX10_addNote_85 ic_1 ?_
      refine z_iload_n E 3 dX10_addNote_86 rfl ?_
      obtain ⟨_, e28, e⟩ := ob e
      obtain ⟨p29, e30, e⟩ := ob e
      refine z_kV2 (st := []) (av := [.ref v0, .int x17, .int (1 : Int32), .int v2]) E k n (z_rV (st := []) (av := [.int x17, .int (1 : Int32), .int v2]) E Y_X10_lays k_X10_88 (ci := 12) rfl (c_X10_lays (z_El E) e30) dX10_addNote_87 e28 rfl rfl (by decide) (by decide) (zk (k := k) (a := 0) hk (by decide)) (zk (k := n) (a := 0) hn (by decide)) (Nat.zero_le _)) rfl rfl rfl ?_
      refine z_aload_n E 1 dX10_addNote_90 rfl ?_
      refine z_iload_n E 0 dX10_addNote_91 rfl ?_
      refine z_iconst E dX10_addNote_92 ic_2 ?_
      refine z_iconst E dX10_addNote_93 ic_0 ?_
      obtain ⟨_, e31, e⟩ := ob e
      obtain ⟨p32, e33, e⟩ := ob e
      refine z_kV2 (st := []) (av := [.ref v0, .int x17, .int (2 : Int32), .int (0 : Int32)]) E k n (z_rV (st := []) (av := [.int x17, .int (2 : Int32), .int (0 : Int32)]) E Y_X10_lays k_X10_88 (ci := 12) rfl (c_X10_lays (z_El E) e33) dX10_addNote_94 e31 rfl rfl (by decide) (by decide) (zk (k := k) (a := 0) hk (by decide)) (zk (k := n) (a := 0) hn (by decide)) (Nat.zero_le _)) rfl rfl rfl ?_
      refine z_aload_n E 1 dX10_addNote_97 rfl ?_
      refine z_iload_n E 0 dX10_addNote_98 rfl ?_
      refine z_iconst E dX10_addNote_99 ic_3 ?_
      refine z_iconst E dX10_addNote_100 ic_0 ?_
      obtain ⟨_, e34, e⟩ := ob e
      obtain ⟨p35, e36, e⟩ := ob e
      refine z_kV2 (st := []) (av := [.ref v0, .int x17, .int (3 : Int32), .int (0 : Int32)]) E k n (z_rV (st := []) (av := [.int x17, .int (3 : Int32), .int (0 : Int32)]) E Y_X10_lays k_X10_88 (ci := 12) rfl (c_X10_lays (z_El E) e36) dX10_addNote_101 e34 rfl rfl (by decide) (by decide) (zk (k := k) (a := 0) hk (by decide)) (zk (k := n) (a := 0) hn (by decide)) (Nat.zero_le _)) rfl rfl rfl ?_
      refine z_iload_n E 0 dX10_addNote_104 rfl ?_
      obtain rfl := Option.some.inj e
      exact z_iret E M dX10_addNote_105 rfl rfl rfl rfl (zk (k := k) (a := 0) hk (by decide)) (zk (k := n) (a := 0) hn (by decide))
    · refine z_icmp_neF (tgt := 51) E dX10_addNote_39 rfl (Classical.not_not.mp c9) ?_
      refine z_aload_n E 0 dX10_addNote_42 rfl ?_
      refine z_iconst E dX10_addNote_43 ic_2 ?_
      refine z_iconst E dX10_addNote_44 ic_1 ?_
      refine z_bipush E dX10_addNote_45 bp_10 ?_
      obtain ⟨_, e37, e⟩ := ob e
      obtain ⟨p38, e39, e⟩ := ob e
      refine z_kR2 (st := []) (av := [.ref v0, .int (2 : Int32), .int (1 : Int32), .int (10 : Int32)]) E k n (z_rV (st := []) (av := [.int (2 : Int32), .int (1 : Int32), .int (10 : Int32)]) E Y_X10_denies k_X10_80 (ci := 12) rfl (c_X10_denies (z_El E) e39) dX10_addNote_47 e37 rfl rfl (by decide) (by decide) (zk (k := k) (a := 0) hk (by decide)) (zk (k := n) (a := 0) hn (by decide)) (Nat.zero_le _)) rfl rfl rfl ?_
      obtain rfl := Option.some.inj e
      exact z_iret E M dX10_addNote_50 rfl rfl rfl rfl (zk (k := k) (a := 0) hk (by decide)) (zk (k := n) (a := 0) hn (by decide))
  · refine z_if_eqF (tgt := 31) E dX10_addNote_26 rfl (zb_nf c4) ?_
    refine z_iconst E dX10_addNote_29 ic_0 ?_
    obtain rfl := Option.some.inj e
    exact z_iret E M dX10_addNote_30 rfl rfl rfl rfl (zk (k := k) (a := 0) hk (by decide)) (zk (k := n) (a := 0) hn (by decide))
noncomputable def f_X10_addNote_J22 (h : PH) (v0 : Nat) (v1 : Int32) (v2 : Int32) (w0 : Nat) : Option (Int32 × PH) :=
  f_X10_addNote_J23 h v0 v1 v2 (1 : Int32) w0
theorem b_X10_addNote_J22 {X : PX} (E : z_E X cX10_addNote RX10 "addNote" 4 rmX10_addNote (some .int)) (T0 : z_T0 X) {k n : Nat} (hk : k + 0 ≤ rmX10_addNote.cells) (hn : n + 0 ≤ rmX10_addNote.slots) {h : PH} {v0 : Nat} {v1 : Int32} {v2 : Int32} {w0 : Nat} {r : (Int32 × PH)} (e : f_X10_addNote_J22 h v0 v1 v2 w0 = some r) (M : z_M X rmX10_addNote.cells rmX10_addNote.slots (.inr (some (.int r.1))) r.2) : WP X 4 k n 22 [(0, .ref v0), (1, .int v1), (2, .int v2)] [.ref w0] h := by
  unfold f_X10_addNote_J22 at e
  refine z_iconst E dX10_addNote_22 ic_1 ?_
  exact z_sub [0, 1, 2] rfl (b_X10_addNote_J23 E T0 (zk (k := k) (a := 0) hk (by decide)) (zk (k := n) (a := 0) hn (by decide)) e M)
noncomputable def f_X10_addNote (h : PH) (a0 : Nat) (a1 : Int32) (a2 : Int32) : Option (Int32 × PH) :=
  if (f_X10_isPage a1) = false then
    f_X10_addNote_J22 h a0 a1 a2 a0
  else
    if (f_X10_in a2 (1 : Int32) (30 : Int32)) = false then
      f_X10_addNote_J22 h a0 a1 a2 a0
    else
      f_X10_addNote_J23 h a0 a1 a2 (0 : Int32) a0
theorem b_X10_addNote {X : PX} (E : z_E X cX10_addNote RX10 "addNote" 4 rmX10_addNote (some .int)) (T0 : z_T0 X) {h : PH} {a0 : Nat} {a1 : Int32} {a2 : Int32} {r : (Int32 × PH)} (e : f_X10_addNote h a0 a1 a2 = some r) (M : z_M X rmX10_addNote.cells rmX10_addNote.slots (.inr (some (.int r.1))) r.2) : WP X 4 0 0 0 [(0, .ref a0), (1, .int a1), (2, .int a2)] [] h := by
  unfold f_X10_addNote at e
  refine z_aload_n E 0 dX10_addNote_0 rfl ?_
  refine z_iload_n E 1 dX10_addNote_1 rfl ?_
  refine z_kR2 (st := [.ref a0]) (av := [.int a1]) E 0 0 (z_rS (st := [.ref a0]) (av := [.int a1]) E Y_X10_isPage k_X10_77 (c_X10_isPage (l := z_l X) (h := h) (z_El E) a1) dX10_addNote_2 rfl rfl (by decide) (by decide) (by decide) (by decide) (Nat.le_of_ble_eq_true rfl)) rfl rfl rfl ?_
  rcases oi e with ⟨c1, e⟩ | ⟨c1, e⟩
  · refine z_if_eqT (tgt := 22) E dX10_addNote_5 rfl (zb_f c1) ?_
    exact z_sub [0, 1, 2] rfl (b_X10_addNote_J22 E T0 (by decide) (by decide) e M)
  · refine z_if_eqF (tgt := 22) E dX10_addNote_5 rfl (zb_nf c1) ?_
    refine z_iload_n E 2 dX10_addNote_8 rfl ?_
    refine z_iconst E dX10_addNote_9 ic_1 ?_
    refine z_bipush E dX10_addNote_10 bp_30 ?_
    refine z_kR2 (st := [.ref a0]) (av := [.int a2, .int (1 : Int32), .int (30 : Int32)]) E 0 0 (z_rS (st := [.ref a0]) (av := [.int a2, .int (1 : Int32), .int (30 : Int32)]) E Y_X10_in k_X10_62 (c_X10_in (l := z_l X) (h := h) (z_El E) a2 (1 : Int32) (30 : Int32)) dX10_addNote_12 rfl rfl (by decide) (by decide) (by decide) (by decide) (Nat.le_of_ble_eq_true rfl)) rfl rfl rfl ?_
    rcases oi e with ⟨c2, e⟩ | ⟨c2, e⟩
    · refine z_if_eqT (tgt := 22) E dX10_addNote_15 rfl (zb_f c2) ?_
      exact z_sub [0, 1, 2] rfl (b_X10_addNote_J22 E T0 (by decide) (by decide) e M)
    · refine z_if_eqF (tgt := 22) E dX10_addNote_15 rfl (zb_nf c2) ?_
      refine z_iconst E dX10_addNote_18 ic_0 ?_
      refine z_goto (tgt := 23) E dX10_addNote_19 rfl ?_
      exact z_sub [0, 1, 2] rfl (b_X10_addNote_J23 E T0 (by decide) (by decide) e M)
theorem c_X10_addNote {l : Launch} (hl : l.stackTraces = false) {h : PH} {a0 : Nat} {a1 : Int32} {a2 : Int32} {r : (Int32 × PH)} (e : f_X10_addNote h a0 a1 a2 = some r) : CMet l yX10_addNote (z_W yX10_addNote cX10_addNote 4 (some .int)) rmX10_addNote h [.ref a0, .int a1, .int a2] (.inr (some (.int r.1))) r.2 :=
  z_met hl Y_X10_addNote (by decide +kernel) (Nat.le_of_ble_eq_true rfl) (fun X hX E T0 M => b_X10_addNote E T0 e M)
abbrev rmX10_thrown : Room := { frames := 0, cells := 0, slots := 0, locals := 0 }
noncomputable def f_X10_thrown (h : PH) (a0 : Nat) : Option Int32 :=
  (rdI h a0 12 8).bind fun x1 =>
  some x1
theorem b_X10_thrown {X : PX} (E : z_E X cX10_thrown RX10 "thrown" 1 rmX10_thrown (some .int)) (T0 : z_T0 X) {h : PH} {a0 : Nat} {r : Int32} (e : f_X10_thrown h a0 = some r) (M : z_M X rmX10_thrown.cells rmX10_thrown.slots (.inr (some (.int r))) h) : WP X 1 0 0 0 [(0, .ref a0)] [] h := by
  unfold f_X10_thrown at e
  refine z_aload_n E 0 dX10_thrown_0 rfl ?_
  obtain ⟨x1, e2, e⟩ := ob e
  refine z_getI E fl_X10_36 dX10_thrown_1 e2 ?_
  obtain rfl := Option.some.inj e
  exact z_iret E M dX10_thrown_4 rfl rfl rfl rfl (by decide) (by decide)
theorem c_X10_thrown {l : Launch} (hl : l.stackTraces = false) {h : PH} {a0 : Nat} {r : Int32} (e : f_X10_thrown h a0 = some r) : CMet l yX10_thrown (z_W yX10_thrown cX10_thrown 1 (some .int)) rmX10_thrown h [.ref a0] (.inr (some (.int r))) h :=
  z_met hl Y_X10_thrown (by decide +kernel) (Nat.le_of_ble_eq_true rfl) (fun X hX E T0 M => b_X10_thrown E T0 e M)
abbrev rmX9_cite : Room := { frames := 8, cells := 12, slots := 117, locals := 146 }
noncomputable def f_X9_cite (h : PH) (a0 : Nat) (a1 : Int32) (a2 : Int32) : Option ((String ⊕ Int32) × PH) :=
  (gd h a0 11).bind fun _ =>
  (f_X9_change h a0 (1 : Int32) a1 a2 (0 : Int32)).bind fun p2 =>
  Sum.elim
    (fun E4 =>
    some ((Sum.inl E4), p2.2))
    (fun y6 =>
    some ((Sum.inr y6), p2.2)) p2.1
theorem b_X9_cite {X : PX} (E : z_E X cX9_cite RX9 "cite" 3 rmX9_cite (some .int)) (T0 : z_T0 X) {h : PH} {a0 : Nat} {a1 : Int32} {a2 : Int32} {r : ((String ⊕ Int32) × PH)} (e : f_X9_cite h a0 a1 a2 = some r) (M : z_M X rmX9_cite.cells rmX9_cite.slots (zoI r.1) r.2) : WP X 3 0 0 0 [(0, .ref a0), (1, .int a1), (2, .int a2)] [] h := by
  unfold f_X9_cite at e
  refine z_aload_n E 0 dX9_cite_0 rfl ?_
  refine z_iconst E dX9_cite_1 ic_1 ?_
  refine z_iload_n E 1 dX9_cite_2 rfl ?_
  refine z_iload_n E 2 dX9_cite_3 rfl ?_
  refine z_iconst E dX9_cite_4 ic_0 ?_
  obtain ⟨_, e1, e⟩ := ob e
  obtain ⟨p2, e3, e⟩ := ob e
  rcases os e with ⟨E4, c5, e⟩ | ⟨y6, c5, e⟩
  · obtain rfl := Option.some.inj e
    refine z_kX2 (st := []) (av := [.ref a0, .int (1 : Int32), .int a1, .int a2, .int (0 : Int32)]) E 12 117 (z_rV (st := []) (av := [.int (1 : Int32), .int a1, .int a2, .int (0 : Int32)]) E Y_X9_change k_X9_61 (ci := 11) rfl (zc_o (c_X9_change (z_El E) e3) (by rw [c5]; rfl)) dX9_cite_5 e1 rfl rfl (by decide) (by decide) (by decide) (by decide) (Nat.zero_le _)) rfl rfl rfl ?_
    exact z_outX E T0 M rfl rfl (by decide) (by decide)
  · refine z_kR2 (st := []) (av := [.ref a0, .int (1 : Int32), .int a1, .int a2, .int (0 : Int32)]) E 12 117 (z_rV (st := []) (av := [.int (1 : Int32), .int a1, .int a2, .int (0 : Int32)]) E Y_X9_change k_X9_61 (ci := 11) rfl (zc_o (c_X9_change (z_El E) e3) (by rw [c5]; rfl)) dX9_cite_5 e1 rfl rfl (by decide) (by decide) (by decide) (by decide) (Nat.zero_le _)) rfl rfl rfl ?_
    obtain rfl := Option.some.inj e
    exact z_iret E M dX9_cite_8 rfl rfl rfl rfl (by decide) (by decide)
theorem c_X9_cite {l : Launch} (hl : l.stackTraces = false) {h : PH} {a0 : Nat} {a1 : Int32} {a2 : Int32} {r : ((String ⊕ Int32) × PH)} (e : f_X9_cite h a0 a1 a2 = some r) : CMet l yX9_cite (z_W yX9_cite cX9_cite 3 (some .int)) rmX9_cite h [.ref a0, .int a1, .int a2] (zoI r.1) r.2 :=
  z_met hl Y_X9_cite (by decide +kernel) (Nat.le_of_ble_eq_true rfl) (fun X hX E T0 M => b_X9_cite E T0 e M)
abbrev rmL_cite : Room := { frames := 9, cells := 12, slots := 117, locals := 168 }
noncomputable def f_L_cite (h : PH) (a0 : Nat) (a1 : Int32) (a2 : Int32) (a3 : Nat) : Option (Int32 × PH) :=
  (gd h a0 11).bind fun _ =>
  (f_X9_cite h a0 a1 a2).bind fun p2 =>
  Sum.elim
    (fun E4 =>
    if E4 = "java/util/NoSuchElementException" then
      some ((1 : Int32), p2.2)
    else if E4 = "java/lang/IllegalArgumentException" then
      some ((2 : Int32), p2.2)
    else if E4 = "java/lang/UnsupportedOperationException" then
      some ((3 : Int32), p2.2)
    else none)
    (fun y6 =>
    (asL p2.2 a3 (0 : Int32) y6.toInt64).bind fun h10 =>
    some ((0 : Int32), h10)) p2.1
theorem b_L_cite {X : PX} (E : z_E X cL_cite RL "cite" 5 rmL_cite (some .int)) (TT : z_TT X [(0, 10, 13, 20), (0, 10, 17, 13), (0, 10, 21, 15)]) {h : PH} {a0 : Nat} {a1 : Int32} {a2 : Int32} {a3 : Nat} {r : (Int32 × PH)} (e : f_L_cite h a0 a1 a2 a3 = some r) (M : z_M X rmL_cite.cells rmL_cite.slots (.inr (some (.int r.1))) r.2) : WP X 5 0 0 0 [(0, .ref a0), (1, .int a1), (2, .int a2), (3, .ref a3)] [] h := by
  unfold f_L_cite at e
  refine z_aload_n E 3 dL_cite_0 rfl ?_
  refine z_iconst E dL_cite_1 ic_0 ?_
  refine z_aload_n E 0 dL_cite_2 rfl ?_
  refine z_iload_n E 1 dL_cite_3 rfl ?_
  refine z_iload_n E 2 dL_cite_4 rfl ?_
  obtain ⟨_, e1, e⟩ := ob e
  obtain ⟨p2, e3, e⟩ := ob e
  rcases os e with ⟨E4, c5, e⟩ | ⟨y6, c5, e⟩
  · rcases oi e with ⟨c7, e⟩ | ⟨c7, e⟩
    · subst c7
      refine z_kX2 (st := [.int (0 : Int32), .ref a3]) (av := [.ref a0, .int a1, .int a2]) E 12 117 (z_rV (st := [.int (0 : Int32), .ref a3]) (av := [.int a1, .int a2]) E Y_X9_cite k_L_17 (ci := 11) rfl (zc_o (c_X9_cite (z_El E) e3) (by rw [c5]; rfl)) dL_cite_5 e1 rfl rfl (by decide) (by decide) (by decide) (by decide) (Nat.le_of_ble_eq_true rfl)) rfl rfl rfl ?_
      refine z_catch (lv2 := [(0, .ref a0), (1, .int a1), (2, .int a2), (3, .ref a3)]) E TT 0 (q := (0, 10, 13, 20)) rfl rfl (by decide) cl_L_20 kb_NoSuchElementException (fun z hz => nomatch hz) (Or.inr ⟨dL_cite_13, rfl⟩) (by decide) rfl ?_
      refine z_iconst E dL_cite_15 ic_1 ?_
      obtain rfl := Option.some.inj e
      exact z_iret E M dL_cite_16 rfl rfl rfl rfl (by decide) (by decide)
    rcases oi e with ⟨c8, e⟩ | ⟨c8, e⟩
    · subst c8
      refine z_kX2 (st := [.int (0 : Int32), .ref a3]) (av := [.ref a0, .int a1, .int a2]) E 12 117 (z_rV (st := [.int (0 : Int32), .ref a3]) (av := [.int a1, .int a2]) E Y_X9_cite k_L_17 (ci := 11) rfl (zc_o (c_X9_cite (z_El E) e3) (by rw [c5]; rfl)) dL_cite_5 e1 rfl rfl (by decide) (by decide) (by decide) (by decide) (Nat.le_of_ble_eq_true rfl)) rfl rfl rfl ?_
      refine z_catch (lv2 := [(0, .ref a0), (1, .int a1), (2, .int a2), (3, .ref a3)]) E TT 1 (q := (0, 10, 17, 13)) rfl rfl (by decide) cl_L_13 kb_IllegalArgumentException (List.forall_mem_cons.mpr ⟨⟨by decide, "java/util/NoSuchElementException", cl_L_20, nc_IllegalArgumentException_NoSuchElementException⟩, (fun z hz => nomatch hz)⟩) (Or.inr ⟨dL_cite_17, rfl⟩) (by decide) rfl ?_
      refine z_iconst E dL_cite_19 ic_2 ?_
      obtain rfl := Option.some.inj e
      exact z_iret E M dL_cite_20 rfl rfl rfl rfl (by decide) (by decide)
    rcases oi e with ⟨c9, e⟩ | ⟨c9, e⟩
    · subst c9
      refine z_kX2 (st := [.int (0 : Int32), .ref a3]) (av := [.ref a0, .int a1, .int a2]) E 12 117 (z_rV (st := [.int (0 : Int32), .ref a3]) (av := [.int a1, .int a2]) E Y_X9_cite k_L_17 (ci := 11) rfl (zc_o (c_X9_cite (z_El E) e3) (by rw [c5]; rfl)) dL_cite_5 e1 rfl rfl (by decide) (by decide) (by decide) (by decide) (Nat.le_of_ble_eq_true rfl)) rfl rfl rfl ?_
      refine z_catch (lv2 := [(0, .ref a0), (1, .int a1), (2, .int a2), (3, .ref a3)]) E TT 2 (q := (0, 10, 21, 15)) rfl rfl (by decide) cl_L_15 kb_UnsupportedOperationException (List.forall_mem_cons.mpr ⟨⟨by decide, "java/util/NoSuchElementException", cl_L_20, nc_UnsupportedOperationException_NoSuchElementException⟩, (List.forall_mem_cons.mpr ⟨⟨by decide, "java/lang/IllegalArgumentException", cl_L_13, nc_UnsupportedOperationException_IllegalArgumentException⟩, (fun z hz => nomatch hz)⟩)⟩) (Or.inr ⟨dL_cite_21, rfl⟩) (by decide) rfl ?_
      refine z_iconst E dL_cite_23 ic_3 ?_
      obtain rfl := Option.some.inj e
      exact z_iret E M dL_cite_24 rfl rfl rfl rfl (by decide) (by decide)
    cases e
  · refine z_kR2 (st := [.int (0 : Int32), .ref a3]) (av := [.ref a0, .int a1, .int a2]) E 12 117 (z_rV (st := [.int (0 : Int32), .ref a3]) (av := [.int a1, .int a2]) E Y_X9_cite k_L_17 (ci := 11) rfl (zc_o (c_X9_cite (z_El E) e3) (by rw [c5]; rfl)) dL_cite_5 e1 rfl rfl (by decide) (by decide) (by decide) (by decide) (Nat.le_of_ble_eq_true rfl)) rfl rfl rfl ?_
    refine z_i2l (v := y6.toInt64) E dL_cite_8 rfl ?_
    obtain ⟨h10, e11, e⟩ := ob e
    refine z_last E dL_cite_9 e11 ?_
    refine z_goto (tgt := 25) E dL_cite_10 rfl ?_
    refine z_iconst E dL_cite_25 ic_0 ?_
    obtain rfl := Option.some.inj e
    exact z_iret E M dL_cite_26 rfl rfl rfl rfl (by decide) (by decide)
theorem c_L_cite {l : Launch} (hl : l.stackTraces = false) {h : PH} {a0 : Nat} {a1 : Int32} {a2 : Int32} {a3 : Nat} {r : (Int32 × PH)} (e : f_L_cite h a0 a1 a2 a3 = some r) : CMet l yL_cite (z_WH yL_cite cL_cite 5 (some .int) [(0, 10, 13, 20), (0, 10, 17, 13), (0, 10, 21, 15)]) rmL_cite h [.ref a0, .int a1, .int a2, .ref a3] (.inr (some (.int r.1))) r.2 :=
  z_metH hl Y_L_cite (by decide +kernel) (Nat.le_of_ble_eq_true rfl) (fun X hX E T0 M => b_L_cite E T0 e M)
abbrev rmX10_isNote : Room := { frames := 1, cells := 0, slots := 0, locals := 22 }
noncomputable def f_X10_isNote (h : PH) (a0 : Nat) (a1 : Int32) : Option Bool :=
  (rdR h a0 12 0).bind fun x1 =>
  (alI .int h x1 (0 : Int32)).bind fun x3 =>
  some (f_X10_in a1 (0 : Int32) (x3 - (1 : Int32)))
theorem b_X10_isNote {X : PX} (E : z_E X cX10_isNote RX10 "isNote" 2 rmX10_isNote (some .boolean)) (T0 : z_T0 X) {h : PH} {a0 : Nat} {a1 : Int32} {r : Bool} (e : f_X10_isNote h a0 a1 = some r) (M : z_M X rmX10_isNote.cells rmX10_isNote.slots (.inr (some (.int (zb r)))) h) : WP X 2 0 0 0 [(0, .ref a0), (1, .int a1)] [] h := by
  unfold f_X10_isNote at e
  refine z_iload_n E 1 dX10_isNote_0 rfl ?_
  refine z_iconst E dX10_isNote_1 ic_0 ?_
  refine z_aload_n E 0 dX10_isNote_2 rfl ?_
  obtain ⟨x1, e2, e⟩ := ob e
  refine z_getR E fl_X10_7 dX10_isNote_3 e2 ?_
  refine z_iconst E dX10_isNote_6 ic_0 ?_
  obtain ⟨x3, e4, e⟩ := ob e
  refine z_iald E dX10_isNote_7 e4 ?_
  refine z_iconst E dX10_isNote_8 ic_1 ?_
  refine z_isub E dX10_isNote_9 ?_
  refine z_kR2 (st := []) (av := [.int a1, .int (0 : Int32), .int (x3 - (1 : Int32))]) E 0 0 (z_rS (st := []) (av := [.int a1, .int (0 : Int32), .int (x3 - (1 : Int32))]) E Y_X10_in k_X10_62 (c_X10_in (l := z_l X) (h := h) (z_El E) a1 (0 : Int32) (x3 - (1 : Int32))) dX10_isNote_10 rfl rfl (by decide) (by decide) (by decide) (by decide) (Nat.zero_le _)) rfl rfl rfl ?_
  obtain rfl := Option.some.inj e
  exact z_iret E M dX10_isNote_13 rfl (zb_nar _) rfl rfl (by decide) (by decide)
theorem c_X10_isNote {l : Launch} (hl : l.stackTraces = false) {h : PH} {a0 : Nat} {a1 : Int32} {r : Bool} (e : f_X10_isNote h a0 a1 = some r) : CMet l yX10_isNote (z_W yX10_isNote cX10_isNote 2 (some .boolean)) rmX10_isNote h [.ref a0, .int a1] (.inr (some (.int (zb r)))) h :=
  z_met hl Y_X10_isNote (by decide +kernel) (Nat.le_of_ble_eq_true rfl) (fun X hX E T0 M => b_X10_isNote E T0 e M)
abbrev rmX10_areNone : Room := { frames := 2, cells := 0, slots := 0, locals := 43 }
noncomputable def f_X10_areNone (h : PH) (a0 : Nat) (a1 : Int32) (a2 : Int32) : Option (Bool × PH) :=
  (gd h a0 12).bind fun _ =>
  (f_X10_isNote h a0 a1).bind fun p2 =>
  if p2 = false then
    (gd h a0 12).bind fun _ =>
    (f_X10_fails h a0 (1 : Int32)).bind fun p6 =>
    some (p6.1, p6.2)
  else
    (gd h a0 12).bind fun _ =>
    (f_X10_isNote h a0 a2).bind fun p9 =>
    if p9 = false then
      (gd h a0 12).bind fun _ =>
      (f_X10_fails h a0 (1 : Int32)).bind fun p13 =>
      some (p13.1, p13.2)
    else
      (gd h a0 12).bind fun _ =>
      (f_X10_fails h a0 (0 : Int32)).bind fun p16 =>
      some (p16.1, p16.2)
theorem b_X10_areNone {X : PX} (E : z_E X cX10_areNone RX10 "areNone" 3 rmX10_areNone (some .boolean)) (T0 : z_T0 X) {h : PH} {a0 : Nat} {a1 : Int32} {a2 : Int32} {r : (Bool × PH)} (e : f_X10_areNone h a0 a1 a2 = some r) (M : z_M X rmX10_areNone.cells rmX10_areNone.slots (.inr (some (.int (zb r.1)))) r.2) : WP X 3 0 0 0 [(0, .ref a0), (1, .int a1), (2, .int a2)] [] h := by
  unfold f_X10_areNone at e
  refine z_aload_n E 0 dX10_areNone_0 rfl ?_
  refine z_aload_n E 0 dX10_areNone_1 rfl ?_
  refine z_iload_n E 1 dX10_areNone_2 rfl ?_
  obtain ⟨_, e1, e⟩ := ob e
  obtain ⟨p2, e3, e⟩ := ob e
  refine z_kR2 (st := [.ref a0]) (av := [.ref a0, .int a1]) E 0 0 (z_rV (st := [.ref a0]) (av := [.int a1]) E Y_X10_isNote k_X10_66 (ci := 12) rfl (c_X10_isNote (z_El E) e3) dX10_areNone_3 e1 rfl rfl (by decide) (by decide) (by decide) (by decide) (Nat.le_of_ble_eq_true rfl)) rfl rfl rfl ?_
  rcases oi e with ⟨c4, e⟩ | ⟨c4, e⟩
  · refine z_if_eqT (tgt := 21) E dX10_areNone_6 rfl (zb_f c4) ?_
    refine z_iconst E dX10_areNone_21 ic_1 ?_
    obtain ⟨_, e5, e⟩ := ob e
    obtain ⟨p6, e7, e⟩ := ob e
    refine z_kR2 (st := []) (av := [.ref a0, .int (1 : Int32)]) E 0 0 (z_rV (st := []) (av := [.int (1 : Int32)]) E Y_X10_fails k_X10_70 (ci := 12) rfl (c_X10_fails (z_El E) e7) dX10_areNone_22 e5 rfl rfl (by decide) (by decide) (by decide) (by decide) (Nat.zero_le _)) rfl rfl rfl ?_
    obtain rfl := Option.some.inj e
    exact z_iret E M dX10_areNone_25 rfl (zb_nar _) rfl rfl (by decide) (by decide)
  · refine z_if_eqF (tgt := 21) E dX10_areNone_6 rfl (zb_nf c4) ?_
    refine z_aload_n E 0 dX10_areNone_9 rfl ?_
    refine z_iload_n E 2 dX10_areNone_10 rfl ?_
    obtain ⟨_, e8, e⟩ := ob e
    obtain ⟨p9, e10, e⟩ := ob e
    refine z_kR2 (st := [.ref a0]) (av := [.ref a0, .int a2]) E 0 0 (z_rV (st := [.ref a0]) (av := [.int a2]) E Y_X10_isNote k_X10_66 (ci := 12) rfl (c_X10_isNote (z_El E) e10) dX10_areNone_11 e8 rfl rfl (by decide) (by decide) (by decide) (by decide) (Nat.le_of_ble_eq_true rfl)) rfl rfl rfl ?_
    rcases oi e with ⟨c11, e⟩ | ⟨c11, e⟩
    · refine z_if_eqT (tgt := 21) E dX10_areNone_14 rfl (zb_f c11) ?_
      refine z_iconst E dX10_areNone_21 ic_1 ?_
      obtain ⟨_, e12, e⟩ := ob e
      obtain ⟨p13, e14, e⟩ := ob e
      refine z_kR2 (st := []) (av := [.ref a0, .int (1 : Int32)]) E 0 0 (z_rV (st := []) (av := [.int (1 : Int32)]) E Y_X10_fails k_X10_70 (ci := 12) rfl (c_X10_fails (z_El E) e14) dX10_areNone_22 e12 rfl rfl (by decide) (by decide) (by decide) (by decide) (Nat.zero_le _)) rfl rfl rfl ?_
      obtain rfl := Option.some.inj e
      exact z_iret E M dX10_areNone_25 rfl (zb_nar _) rfl rfl (by decide) (by decide)
    · refine z_if_eqF (tgt := 21) E dX10_areNone_14 rfl (zb_nf c11) ?_
      refine z_iconst E dX10_areNone_17 ic_0 ?_
      refine z_goto (tgt := 22) E dX10_areNone_18 rfl ?_
      obtain ⟨_, e15, e⟩ := ob e
      obtain ⟨p16, e17, e⟩ := ob e
      refine z_kR2 (st := []) (av := [.ref a0, .int (0 : Int32)]) E 0 0 (z_rV (st := []) (av := [.int (0 : Int32)]) E Y_X10_fails k_X10_70 (ci := 12) rfl (c_X10_fails (z_El E) e17) dX10_areNone_22 e15 rfl rfl (by decide) (by decide) (by decide) (by decide) (Nat.zero_le _)) rfl rfl rfl ?_
      obtain rfl := Option.some.inj e
      exact z_iret E M dX10_areNone_25 rfl (zb_nar _) rfl rfl (by decide) (by decide)
theorem c_X10_areNone {l : Launch} (hl : l.stackTraces = false) {h : PH} {a0 : Nat} {a1 : Int32} {a2 : Int32} {r : (Bool × PH)} (e : f_X10_areNone h a0 a1 a2 = some r) : CMet l yX10_areNone (z_W yX10_areNone cX10_areNone 3 (some .boolean)) rmX10_areNone h [.ref a0, .int a1, .int a2] (.inr (some (.int (zb r.1)))) r.2 :=
  z_met hl Y_X10_areNone (by decide +kernel) (Nat.le_of_ble_eq_true rfl) (fun X hX E T0 M => b_X10_areNone E T0 e M)
abbrev rmX10_of : Room := { frames := 0, cells := 0, slots := 0, locals := 0 }
noncomputable def f_X10_of (h : PH) (a0 : Nat) (a1 : Int32) (a2 : Int32) : Option Int32 :=
  (rdR h a0 12 0).bind fun x1 =>
  (alI .int h x1 (((44 : Int32) + ((4 : Int32) * a1)) + a2)).bind fun x3 =>
  some x3
theorem b_X10_of {X : PX} (E : z_E X cX10_of RX10 "of" 3 rmX10_of (some .int)) (T0 : z_T0 X) {h : PH} {a0 : Nat} {a1 : Int32} {a2 : Int32} {r : Int32} (e : f_X10_of h a0 a1 a2 = some r) (M : z_M X rmX10_of.cells rmX10_of.slots (.inr (some (.int r))) h) : WP X 3 0 0 0 [(0, .ref a0), (1, .int a1), (2, .int a2)] [] h := by
  unfold f_X10_of at e
  refine z_aload_n E 0 dX10_of_0 rfl ?_
  obtain ⟨x1, e2, e⟩ := ob e
  refine z_getR E fl_X10_7 dX10_of_1 e2 ?_
  refine z_bipush E dX10_of_4 bp_44 ?_
  refine z_iconst E dX10_of_6 ic_4 ?_
  refine z_iload_n E 1 dX10_of_7 rfl ?_
  refine z_imul E dX10_of_8 ?_
  refine z_iadd E dX10_of_9 ?_
  refine z_iload_n E 2 dX10_of_10 rfl ?_
  refine z_iadd E dX10_of_11 ?_
  obtain ⟨x3, e4, e⟩ := ob e
  refine z_iald E dX10_of_12 e4 ?_
  obtain rfl := Option.some.inj e
  exact z_iret E M dX10_of_13 rfl rfl rfl rfl (by decide) (by decide)
theorem c_X10_of {l : Launch} (hl : l.stackTraces = false) {h : PH} {a0 : Nat} {a1 : Int32} {a2 : Int32} {r : Int32} (e : f_X10_of h a0 a1 a2 = some r) : CMet l yX10_of (z_W yX10_of cX10_of 3 (some .int)) rmX10_of h [.ref a0, .int a1, .int a2] (.inr (some (.int r))) h :=
  z_met hl Y_X10_of (by decide +kernel) (Nat.le_of_ble_eq_true rfl) (fun X hX E T0 M => b_X10_of E T0 e M)
abbrev rmX10_isCiting : Room := { frames := 1, cells := 0, slots := 0, locals := 22 }
noncomputable def f_X10_isCiting (h : PH) (a0 : Nat) (a1 : Int32) (a2 : Int32) : Option Bool :=
  (gd h a0 12).bind fun _ =>
  (f_X10_of h a0 a1 (3 : Int32)).bind fun p2 =>
  if ¬ ((zshr p2 a2) &&& (1 : Int32)) = (1 : Int32) then
    some false
  else
    some true
theorem b_X10_isCiting {X : PX} (E : z_E X cX10_isCiting RX10 "isCiting" 3 rmX10_isCiting (some .boolean)) (T0 : z_T0 X) {h : PH} {a0 : Nat} {a1 : Int32} {a2 : Int32} {r : Bool} (e : f_X10_isCiting h a0 a1 a2 = some r) (M : z_M X rmX10_isCiting.cells rmX10_isCiting.slots (.inr (some (.int (zb r)))) h) : WP X 3 0 0 0 [(0, .ref a0), (1, .int a1), (2, .int a2)] [] h := by
  unfold f_X10_isCiting at e
  refine z_aload_n E 0 dX10_isCiting_0 rfl ?_
  refine z_iload_n E 1 dX10_isCiting_1 rfl ?_
  refine z_iconst E dX10_isCiting_2 ic_3 ?_
  obtain ⟨_, e1, e⟩ := ob e
  obtain ⟨p2, e3, e⟩ := ob e
  refine z_kR2 (st := []) (av := [.ref a0, .int a1, .int (3 : Int32)]) E 0 0 (z_rV (st := []) (av := [.int a1, .int (3 : Int32)]) E Y_X10_of k_X10_73 (ci := 12) rfl (c_X10_of (z_El E) e3) dX10_isCiting_3 e1 rfl rfl (by decide) (by decide) (by decide) (by decide) (Nat.zero_le _)) rfl rfl rfl ?_
  refine z_iload_n E 2 dX10_isCiting_6 rfl ?_
  refine z_ishr E dX10_isCiting_7 ?_
  refine z_iconst E dX10_isCiting_8 ic_1 ?_
  refine z_iand E dX10_isCiting_9 ?_
  refine z_iconst E dX10_isCiting_10 ic_1 ?_
  rcases oi e with ⟨c4, e⟩ | ⟨c4, e⟩
  · refine z_icmp_neT (tgt := 18) E dX10_isCiting_11 rfl c4 ?_
    refine z_iconst E dX10_isCiting_18 ic_0 ?_
    obtain rfl := Option.some.inj e
    exact z_iret E M dX10_isCiting_19 rfl rfl rfl rfl (by decide) (by decide)
  · refine z_icmp_neF (tgt := 18) E dX10_isCiting_11 rfl (Classical.not_not.mp c4) ?_
    refine z_iconst E dX10_isCiting_14 ic_1 ?_
    refine z_goto (tgt := 19) E dX10_isCiting_15 rfl ?_
    obtain rfl := Option.some.inj e
    exact z_iret E M dX10_isCiting_19 rfl rfl rfl rfl (by decide) (by decide)
theorem c_X10_isCiting {l : Launch} (hl : l.stackTraces = false) {h : PH} {a0 : Nat} {a1 : Int32} {a2 : Int32} {r : Bool} (e : f_X10_isCiting h a0 a1 a2 = some r) : CMet l yX10_isCiting (z_W yX10_isCiting cX10_isCiting 3 (some .boolean)) rmX10_isCiting h [.ref a0, .int a1, .int a2] (.inr (some (.int (zb r)))) h :=
  z_met hl Y_X10_isCiting (by decide +kernel) (Nat.le_of_ble_eq_true rfl) (fun X hX E T0 M => b_X10_isCiting E T0 e M)
abbrev rmX10_bits : Room := { frames := 0, cells := 0, slots := 0, locals := 0 }
noncomputable def f_X10_bits_L4 : Nat → Int32 → Int32 → Int32 → Option Int32
  | 0, _, _, _ => none
  | fu + 1, v0, v1, v2 =>
    if (12 : Int32) ≤ v2 then
      some v1
    else
      f_X10_bits_L4 fu v0 (v1 + ((zshr v0 v2) &&& (1 : Int32))) (v2 + (1 : Int32))
theorem b_X10_bits_L4 {X : PX} (E : z_E X cX10_bits RX10 "bits" 3 rmX10_bits (some .int)) (T0 : z_T0 X) {h : PH} {k n : Nat} (hk : k + 0 ≤ rmX10_bits.cells) (hn : n + 0 ≤ rmX10_bits.slots) {s : Int32} : ∀ (fu : Nat) (v0 : Int32) (v1 : Int32) (v2 : Int32) (e : f_X10_bits_L4 fu v0 v1 v2 = some s) (kk : WP X 3 k n 24 [(1, .int s)] [] h), WP X 3 k n 4 [(0, .int v0), (1, .int v1), (2, .int v2)] [] h := by
  intro fu
  induction fu with
  | zero => intro v0 v1 v2 e; exact absurd (show (none : Option Int32) = some s from e) (by intro z; cases z)
  | succ fu ih =>
    intro v0 v1 v2 e kk
    unfold f_X10_bits_L4 at e
    refine z_iload_n E 2 dX10_bits_4 rfl ?_
    refine z_bipush E dX10_bits_5 bp_12 ?_
    rcases oi e with ⟨c1, e⟩ | ⟨c1, e⟩
    · refine z_icmp_geT (tgt := 24) E dX10_bits_7 rfl c1 ?_
      obtain rfl := Option.some.inj e
      exact z_sub [1] rfl kk
    · refine z_icmp_geF (tgt := 24) E dX10_bits_7 rfl c1 ?_
      refine z_iload_n E 1 dX10_bits_10 rfl ?_
      refine z_iload_n E 0 dX10_bits_11 rfl ?_
      refine z_iload_n E 2 dX10_bits_12 rfl ?_
      refine z_ishr E dX10_bits_13 ?_
      refine z_iconst E dX10_bits_14 ic_1 ?_
      refine z_iand E dX10_bits_15 ?_
      refine z_iadd E dX10_bits_16 ?_
      refine z_istore_n (lv2 := [(1, .int (v1 + ((zshr v0 v2) &&& (1 : Int32)))), (0, .int v0), (2, .int v2)]) E dX10_bits_17 (by decide) rfl ?_
      refine z_iinc (v := (v2 + (1 : Int32))) (lv2 := [(2, .int (v2 + (1 : Int32))), (1, .int (v1 + ((zshr v0 v2) &&& (1 : Int32)))), (0, .int v0)]) E 2 dX10_bits_18 rfl (congrArg (v2 + ·) ic_1) (by decide) rfl ?_
      refine z_goto (tgt := 4) E dX10_bits_21 rfl ?_
      exact z_sub [2, 1, 0] rfl (ih _ _ _ e kk)
noncomputable def f_X10_bits (a0 : Int32) : Option Int32 :=
  (f_X10_bits_L4 FV a0 (0 : Int32) (0 : Int32)).bind fun s1 =>
  some s1
theorem b_X10_bits {X : PX} (E : z_E X cX10_bits RX10 "bits" 3 rmX10_bits (some .int)) (T0 : z_T0 X) {h : PH} {a0 : Int32} {r : Int32} (e : f_X10_bits a0 = some r) (M : z_M X rmX10_bits.cells rmX10_bits.slots (.inr (some (.int r))) h) : WP X 3 0 0 0 [(0, .int a0)] [] h := by
  unfold f_X10_bits at e
  refine z_iconst E dX10_bits_0 ic_0 ?_
  refine z_istore_n (lv2 := [(1, .int (0 : Int32)), (0, .int a0)]) E dX10_bits_1 (by decide) rfl ?_
  refine z_iconst E dX10_bits_2 ic_0 ?_
  refine z_istore_n (lv2 := [(2, .int (0 : Int32)), (1, .int (0 : Int32)), (0, .int a0)]) E dX10_bits_3 (by decide) rfl ?_
  obtain ⟨s1, e2, e⟩ := ob e
  refine z_sub [2, 1, 0] rfl (b_X10_bits_L4 E T0 (by decide) (by decide) FV _ _ _ e2 ?_)
  refine z_iload_n E 0 dX10_bits_24 rfl ?_
  obtain rfl := Option.some.inj e
  exact z_iret E M dX10_bits_25 rfl rfl rfl rfl (by decide) (by decide)
theorem c_X10_bits {l : Launch} (hl : l.stackTraces = false) {h : PH} {a0 : Int32} {r : Int32} (e : f_X10_bits a0 = some r) : CMet l yX10_bits (z_W yX10_bits cX10_bits 3 (some .int)) rmX10_bits h [.int a0] (.inr (some (.int r))) h :=
  z_met hl Y_X10_bits (by decide +kernel) (Nat.le_of_ble_eq_true rfl) (fun X hX E T0 M => b_X10_bits E T0 e M)
abbrev rmX10_turns : Room := { frames := 3, cells := 0, slots := 0, locals := 65 }
noncomputable def f_X10_turns_J20 (h : PH) (v0 : Nat) (v1 : Int32) (v2 : Int32) (v3 : Int32) (w0 : Int32) (w1 : Nat) : Option (Int32 × PH) :=
  (gd h w1 12).bind fun _ =>
  (f_X10_fails h w1 w0).bind fun p2 =>
  if p2.1 = false then
    (gd p2.2 v0 12).bind fun _ =>
    (f_X10_isCiting p2.2 v0 v1 v2).bind fun p6 =>
    if ¬ (zb p6) = v3 then
      (rdR p2.2 v0 12 0).bind fun x9 =>
      (gd p2.2 v0 12).bind fun _ =>
      (f_X10_keeps p2.2 v0 x9).bind fun p12 =>
      (gd p12 v0 12).bind fun _ =>
      (f_X10_of p12 v0 v1 (3 : Int32)).bind fun p15 =>
      (gd p12 v0 12).bind fun _ =>
      (f_X10_lays p12 v0 v1 (3 : Int32) (p15 ^^^ (zshl (1 : Int32) v2))).bind fun p18 =>
      (gd p18 v0 12).bind fun _ =>
      (f_X10_of p18 v0 v1 (3 : Int32)).bind fun p21 =>
      (f_X10_bits p21).bind fun p23 =>
      some (p23, p18)
    else
      (gd p2.2 v0 12).bind fun _ =>
      (f_X10_of p2.2 v0 v1 (3 : Int32)).bind fun p26 =>
      (f_X10_bits p26).bind fun p28 =>
      (gd p2.2 v0 12).bind fun _ =>
      (f_X10_denies p2.2 v0 (3 : Int32) (5 : Int32) p28).bind fun p31 =>
      some (p31.1, p31.2)
  else
    some ((0 : Int32), p2.2)
theorem b_X10_turns_J20 {X : PX} (E : z_E X cX10_turns RX10 "turns" 4 rmX10_turns (some .int)) (T0 : z_T0 X) {k n : Nat} (hk : k + 0 ≤ rmX10_turns.cells) (hn : n + 0 ≤ rmX10_turns.slots) {h : PH} {v0 : Nat} {v1 : Int32} {v2 : Int32} {v3 : Int32} {w0 : Int32} {w1 : Nat} {r : (Int32 × PH)} (e : f_X10_turns_J20 h v0 v1 v2 v3 w0 w1 = some r) (M : z_M X rmX10_turns.cells rmX10_turns.slots (.inr (some (.int r.1))) r.2) : WP X 4 k n 20 [(0, .ref v0), (1, .int v1), (2, .int v2), (3, .int v3)] [.int w0, .ref w1] h := by
  unfold f_X10_turns_J20 at e
  obtain ⟨_, e1, e⟩ := ob e
  obtain ⟨p2, e3, e⟩ := ob e
  refine z_kR2 (st := []) (av := [.ref w1, .int w0]) E k n (z_rV (st := []) (av := [.int w0]) E Y_X10_fails k_X10_70 (ci := 12) rfl (c_X10_fails (z_El E) e3) dX10_turns_20 e1 rfl rfl (by decide) (by decide) (zk (k := k) (a := 0) hk (by decide)) (zk (k := n) (a := 0) hn (by decide)) (Nat.zero_le _)) rfl rfl rfl ?_
  rcases oi e with ⟨c4, e⟩ | ⟨c4, e⟩
  · refine z_if_eqT (tgt := 28) E dX10_turns_23 rfl (zb_f c4) ?_
    refine z_aload_n E 0 dX10_turns_28 rfl ?_
    refine z_iload_n E 1 dX10_turns_29 rfl ?_
    refine z_iload_n E 2 dX10_turns_30 rfl ?_
    obtain ⟨_, e5, e⟩ := ob e
    obtain ⟨p6, e7, e⟩ := ob e
    refine z_kR2 (st := []) (av := [.ref v0, .int v1, .int v2]) E k n (z_rV (st := []) (av := [.int v1, .int v2]) E Y_X10_isCiting k_X10_96 (ci := 12) rfl (c_X10_isCiting (z_El E) e7) dX10_turns_31 e5 rfl rfl (by decide) (by decide) (zk (k := k) (a := 0) hk (by decide)) (zk (k := n) (a := 0) hn (by decide)) (Nat.zero_le _)) rfl rfl rfl ?_
    refine z_iload_n E 3 dX10_turns_34 rfl ?_
    rcases oi e with ⟨c8, e⟩ | ⟨c8, e⟩
    · refine z_icmp_neT (tgt := 54) E dX10_turns_35 rfl c8 ?_
      refine z_aload_n E 0 dX10_turns_54 rfl ?_
      refine z_aload_n E 0 dX10_turns_55 rfl ?_
      obtain ⟨x9, e10, e⟩ := ob e
      refine z_getR E fl_X10_7 dX10_turns_56 e10 ?_
      obtain ⟨_, e11, e⟩ := ob e
      obtain ⟨p12, e13, e⟩ := ob e
      refine z_kV2 (st := []) (av := [.ref v0, .ref x9]) E k n (z_rV (st := []) (av := [.ref x9]) E Y_X10_keeps k_X10_84 (ci := 12) rfl (c_X10_keeps (z_El E) e13) dX10_turns_59 e11 rfl rfl (by decide) (by decide) (zk (k := k) (a := 0) hk (by decide)) (zk (k := n) (a := 0) hn (by decide)) (Nat.zero_le _)) rfl rfl rfl ?_
      refine z_aload_n E 0 dX10_turns_62 rfl ?_
      refine z_iload_n E 1 dX10_turns_63 rfl ?_
      refine z_iconst E dX10_turns_64 ic_3 ?_
      refine z_aload_n E 0 dX10_turns_65 rfl ?_
      refine z_iload_n E 1 dX10_turns_66 rfl ?_
      refine z_iconst E dX10_turns_67 ic_3 ?_
      obtain ⟨_, e14, e⟩ := ob e
      obtain ⟨p15, e16, e⟩ := ob e
      refine z_kR2 (st := [.int (3 : Int32), .int v1, .ref v0]) (av := [.ref v0, .int v1, .int (3 : Int32)]) E k n (z_rV (st := [.int (3 : Int32), .int v1, .ref v0]) (av := [.int v1, .int (3 : Int32)]) E Y_X10_of k_X10_73 (ci := 12) rfl (c_X10_of (z_El E) e16) dX10_turns_68 e14 rfl rfl (by decide) (by decide) (zk (k := k) (a := 0) hk (by decide)) (zk (k := n) (a := 0) hn (by decide)) (Nat.le_of_ble_eq_true rfl)) rfl rfl rfl ?_
      refine z_iconst E dX10_turns_71 ic_1 ?_
      refine z_iload_n E 2 dX10_turns_72 rfl ?_
      refine z_ishl E dX10_turns_73 ?_
      refine z_ixor E dX10_turns_74 ?_
      obtain ⟨_, e17, e⟩ := ob e
      obtain ⟨p18, e19, e⟩ := ob e
      refine z_kV2 (st := []) (av := [.ref v0, .int v1, .int (3 : Int32), .int (p15 ^^^ (zshl (1 : Int32) v2))]) E k n (z_rV (st := []) (av := [.int v1, .int (3 : Int32), .int (p15 ^^^ (zshl (1 : Int32) v2))]) E Y_X10_lays k_X10_88 (ci := 12) rfl (c_X10_lays (z_El E) e19) dX10_turns_75 e17 rfl rfl (by decide) (by decide) (zk (k := k) (a := 0) hk (by decide)) (zk (k := n) (a := 0) hn (by decide)) (Nat.zero_le _)) rfl rfl rfl ?_
      refine z_aload_n E 0 dX10_turns_78 rfl ?_
      refine z_iload_n E 1 dX10_turns_79 rfl ?_
      refine z_iconst E dX10_turns_80 ic_3 ?_
      obtain ⟨_, e20, e⟩ := ob e
      obtain ⟨p21, e22, e⟩ := ob e
      refine z_kR2 (st := []) (av := [.ref v0, .int v1, .int (3 : Int32)]) E k n (z_rV (st := []) (av := [.int v1, .int (3 : Int32)]) E Y_X10_of k_X10_73 (ci := 12) rfl (c_X10_of (z_El E) e22) dX10_turns_81 e20 rfl rfl (by decide) (by decide) (zk (k := k) (a := 0) hk (by decide)) (zk (k := n) (a := 0) hn (by decide)) (Nat.zero_le _)) rfl rfl rfl ?_
      obtain ⟨p23, e24, e⟩ := ob e
      refine z_kR2 (st := []) (av := [.int p21]) E k n (z_rS (st := []) (av := [.int p21]) E Y_X10_bits k_X10_99 (c_X10_bits (z_El E) e24) dX10_turns_84 rfl rfl (by decide) (by decide) (zk (k := k) (a := 0) hk (by decide)) (zk (k := n) (a := 0) hn (by decide)) (Nat.zero_le _)) rfl rfl rfl ?_
      obtain rfl := Option.some.inj e
      exact z_iret E M dX10_turns_87 rfl rfl rfl rfl (zk (k := k) (a := 0) hk (by decide)) (zk (k := n) (a := 0) hn (by decide))
    · refine z_icmp_neF (tgt := 54) E dX10_turns_35 rfl (Classical.not_not.mp c8) ?_
      refine z_aload_n E 0 dX10_turns_38 rfl ?_
      refine z_iconst E dX10_turns_39 ic_3 ?_
      refine z_iconst E dX10_turns_40 ic_5 ?_
      refine z_aload_n E 0 dX10_turns_41 rfl ?_
      refine z_iload_n E 1 dX10_turns_42 rfl ?_
      refine z_iconst E dX10_turns_43 ic_3 ?_
      obtain ⟨_, e25, e⟩ := ob e
      obtain ⟨p26, e27, e⟩ := ob e
      refine z_kR2 (st := [.int (5 : Int32), .int (3 : Int32), .ref v0]) (av := [.ref v0, .int v1, .int (3 : Int32)]) E k n (z_rV (st := [.int (5 : Int32), .int (3 : Int32), .ref v0]) (av := [.int v1, .int (3 : Int32)]) E Y_X10_of k_X10_73 (ci := 12) rfl (c_X10_of (z_El E) e27) dX10_turns_44 e25 rfl rfl (by decide) (by decide) (zk (k := k) (a := 0) hk (by decide)) (zk (k := n) (a := 0) hn (by decide)) (Nat.le_of_ble_eq_true rfl)) rfl rfl rfl ?_
      obtain ⟨p28, e29, e⟩ := ob e
      refine z_kR2 (st := [.int (5 : Int32), .int (3 : Int32), .ref v0]) (av := [.int p26]) E k n (z_rS (st := [.int (5 : Int32), .int (3 : Int32), .ref v0]) (av := [.int p26]) E Y_X10_bits k_X10_99 (c_X10_bits (z_El E) e29) dX10_turns_47 rfl rfl (by decide) (by decide) (zk (k := k) (a := 0) hk (by decide)) (zk (k := n) (a := 0) hn (by decide)) (Nat.le_of_ble_eq_true rfl)) rfl rfl rfl ?_
      obtain ⟨_, e30, e⟩ := ob e
      obtain ⟨p31, e32, e⟩ := ob e
      refine z_kR2 (st := []) (av := [.ref v0, .int (3 : Int32), .int (5 : Int32), .int p28]) E k n (z_rV (st := []) (av := [.int (3 : Int32), .int (5 : Int32), .int p28]) E Y_X10_denies k_X10_80 (ci := 12) rfl (c_X10_denies (z_El E) e32) dX10_turns_50 e30 rfl rfl (by decide) (by decide) (zk (k := k) (a := 0) hk (by decide)) (zk (k := n) (a := 0) hn (by decide)) (Nat.zero_le _)) rfl rfl rfl ?_
      obtain rfl := Option.some.inj e
      exact z_iret E M dX10_turns_53 rfl rfl rfl rfl (zk (k := k) (a := 0) hk (by decide)) (zk (k := n) (a := 0) hn (by decide))
  · refine z_if_eqF (tgt := 28) E dX10_turns_23 rfl (zb_nf c4) ?_
    refine z_iconst E dX10_turns_26 ic_0 ?_
    obtain rfl := Option.some.inj e
    exact z_iret E M dX10_turns_27 rfl rfl rfl rfl (zk (k := k) (a := 0) hk (by decide)) (zk (k := n) (a := 0) hn (by decide))
noncomputable def f_X10_turns (h : PH) (a0 : Nat) (a1 : Int32) (a2 : Int32) (a3 : Int32) : Option (Int32 × PH) :=
  (gd h a0 12).bind fun _ =>
  (f_X10_areNone h a0 a1 a2).bind fun p2 =>
  if p2.1 = true then
    some ((0 : Int32), p2.2)
  else
    if ¬ a1 = a2 then
      f_X10_turns_J20 p2.2 a0 a1 a2 a3 (0 : Int32) a0
    else
      f_X10_turns_J20 p2.2 a0 a1 a2 a3 (2 : Int32) a0
theorem b_X10_turns {X : PX} (E : z_E X cX10_turns RX10 "turns" 4 rmX10_turns (some .int)) (T0 : z_T0 X) {h : PH} {a0 : Nat} {a1 : Int32} {a2 : Int32} {a3 : Int32} {r : (Int32 × PH)} (e : f_X10_turns h a0 a1 a2 a3 = some r) (M : z_M X rmX10_turns.cells rmX10_turns.slots (.inr (some (.int r.1))) r.2) : WP X 4 0 0 0 [(0, .ref a0), (1, .int a1), (2, .int a2), (3, .int a3)] [] h := by
  unfold f_X10_turns at e
  refine z_aload_n E 0 dX10_turns_0 rfl ?_
  refine z_iload_n E 1 dX10_turns_1 rfl ?_
  refine z_iload_n E 2 dX10_turns_2 rfl ?_
  obtain ⟨_, e1, e⟩ := ob e
  obtain ⟨p2, e3, e⟩ := ob e
  refine z_kR2 (st := []) (av := [.ref a0, .int a1, .int a2]) E 0 0 (z_rV (st := []) (av := [.int a1, .int a2]) E Y_X10_areNone k_X10_92 (ci := 12) rfl (c_X10_areNone (z_El E) e3) dX10_turns_3 e1 rfl rfl (by decide) (by decide) (by decide) (by decide) (Nat.zero_le _)) rfl rfl rfl ?_
  rcases oi e with ⟨c4, e⟩ | ⟨c4, e⟩
  · refine z_if_neT (tgt := 26) E dX10_turns_6 rfl (zb_t c4) ?_
    refine z_iconst E dX10_turns_26 ic_0 ?_
    obtain rfl := Option.some.inj e
    exact z_iret E M dX10_turns_27 rfl rfl rfl rfl (by decide) (by decide)
  · refine z_if_neF (tgt := 26) E dX10_turns_6 rfl (zb_nt c4) ?_
    refine z_aload_n E 0 dX10_turns_9 rfl ?_
    refine z_iload_n E 1 dX10_turns_10 rfl ?_
    refine z_iload_n E 2 dX10_turns_11 rfl ?_
    rcases oi e with ⟨c5, e⟩ | ⟨c5, e⟩
    · refine z_icmp_neT (tgt := 19) E dX10_turns_12 rfl c5 ?_
      refine z_iconst E dX10_turns_19 ic_0 ?_
      exact z_sub [0, 1, 2, 3] rfl (b_X10_turns_J20 E T0 (by decide) (by decide) e M)
    · refine z_icmp_neF (tgt := 19) E dX10_turns_12 rfl (Classical.not_not.mp c5) ?_
      refine z_iconst E dX10_turns_15 ic_2 ?_
      refine z_goto (tgt := 20) E dX10_turns_16 rfl ?_
      exact z_sub [0, 1, 2, 3] rfl (b_X10_turns_J20 E T0 (by decide) (by decide) e M)
theorem c_X10_turns {l : Launch} (hl : l.stackTraces = false) {h : PH} {a0 : Nat} {a1 : Int32} {a2 : Int32} {a3 : Int32} {r : (Int32 × PH)} (e : f_X10_turns h a0 a1 a2 a3 = some r) : CMet l yX10_turns (z_W yX10_turns cX10_turns 4 (some .int)) rmX10_turns h [.ref a0, .int a1, .int a2, .int a3] (.inr (some (.int r.1))) r.2 :=
  z_met hl Y_X10_turns (by decide +kernel) (Nat.le_of_ble_eq_true rfl) (fun X hX E T0 M => b_X10_turns E T0 e M)
abbrev rmX10_cite : Room := { frames := 4, cells := 0, slots := 0, locals := 88 }
noncomputable def f_X10_cite (h : PH) (a0 : Nat) (a1 : Int32) (a2 : Int32) : Option (Int32 × PH) :=
  (gd h a0 12).bind fun _ =>
  (f_X10_turns h a0 a1 a2 (1 : Int32)).bind fun p2 =>
  some (p2.1, p2.2)
theorem b_X10_cite {X : PX} (E : z_E X cX10_cite RX10 "cite" 3 rmX10_cite (some .int)) (T0 : z_T0 X) {h : PH} {a0 : Nat} {a1 : Int32} {a2 : Int32} {r : (Int32 × PH)} (e : f_X10_cite h a0 a1 a2 = some r) (M : z_M X rmX10_cite.cells rmX10_cite.slots (.inr (some (.int r.1))) r.2) : WP X 3 0 0 0 [(0, .ref a0), (1, .int a1), (2, .int a2)] [] h := by
  unfold f_X10_cite at e
  refine z_aload_n E 0 dX10_cite_0 rfl ?_
  refine z_iload_n E 1 dX10_cite_1 rfl ?_
  refine z_iload_n E 2 dX10_cite_2 rfl ?_
  refine z_iconst E dX10_cite_3 ic_1 ?_
  obtain ⟨_, e1, e⟩ := ob e
  obtain ⟨p2, e3, e⟩ := ob e
  refine z_kR2 (st := []) (av := [.ref a0, .int a1, .int a2, .int (1 : Int32)]) E 0 0 (z_rV (st := []) (av := [.int a1, .int a2, .int (1 : Int32)]) E Y_X10_turns k_X10_103 (ci := 12) rfl (c_X10_turns (z_El E) e3) dX10_cite_4 e1 rfl rfl (by decide) (by decide) (by decide) (by decide) (Nat.zero_le _)) rfl rfl rfl ?_
  obtain rfl := Option.some.inj e
  exact z_iret E M dX10_cite_7 rfl rfl rfl rfl (by decide) (by decide)
theorem c_X10_cite {l : Launch} (hl : l.stackTraces = false) {h : PH} {a0 : Nat} {a1 : Int32} {a2 : Int32} {r : (Int32 × PH)} (e : f_X10_cite h a0 a1 a2 = some r) : CMet l yX10_cite (z_W yX10_cite cX10_cite 3 (some .int)) rmX10_cite h [.ref a0, .int a1, .int a2] (.inr (some (.int r.1))) r.2 :=
  z_met hl Y_X10_cite (by decide +kernel) (Nat.le_of_ble_eq_true rfl) (fun X hX E T0 M => b_X10_cite E T0 e M)
abbrev rmX9_uncite : Room := { frames := 8, cells := 12, slots := 117, locals := 146 }
noncomputable def f_X9_uncite (h : PH) (a0 : Nat) (a1 : Int32) (a2 : Int32) : Option ((String ⊕ Int32) × PH) :=
  (gd h a0 11).bind fun _ =>
  (f_X9_change h a0 (2 : Int32) a1 a2 (0 : Int32)).bind fun p2 =>
  Sum.elim
    (fun E4 =>
    some ((Sum.inl E4), p2.2))
    (fun y6 =>
    some ((Sum.inr y6), p2.2)) p2.1
theorem b_X9_uncite {X : PX} (E : z_E X cX9_uncite RX9 "uncite" 3 rmX9_uncite (some .int)) (T0 : z_T0 X) {h : PH} {a0 : Nat} {a1 : Int32} {a2 : Int32} {r : ((String ⊕ Int32) × PH)} (e : f_X9_uncite h a0 a1 a2 = some r) (M : z_M X rmX9_uncite.cells rmX9_uncite.slots (zoI r.1) r.2) : WP X 3 0 0 0 [(0, .ref a0), (1, .int a1), (2, .int a2)] [] h := by
  unfold f_X9_uncite at e
  refine z_aload_n E 0 dX9_uncite_0 rfl ?_
  refine z_iconst E dX9_uncite_1 ic_2 ?_
  refine z_iload_n E 1 dX9_uncite_2 rfl ?_
  refine z_iload_n E 2 dX9_uncite_3 rfl ?_
  refine z_iconst E dX9_uncite_4 ic_0 ?_
  obtain ⟨_, e1, e⟩ := ob e
  obtain ⟨p2, e3, e⟩ := ob e
  rcases os e with ⟨E4, c5, e⟩ | ⟨y6, c5, e⟩
  · obtain rfl := Option.some.inj e
    refine z_kX2 (st := []) (av := [.ref a0, .int (2 : Int32), .int a1, .int a2, .int (0 : Int32)]) E 12 117 (z_rV (st := []) (av := [.int (2 : Int32), .int a1, .int a2, .int (0 : Int32)]) E Y_X9_change k_X9_61 (ci := 11) rfl (zc_o (c_X9_change (z_El E) e3) (by rw [c5]; rfl)) dX9_uncite_5 e1 rfl rfl (by decide) (by decide) (by decide) (by decide) (Nat.zero_le _)) rfl rfl rfl ?_
    exact z_outX E T0 M rfl rfl (by decide) (by decide)
  · refine z_kR2 (st := []) (av := [.ref a0, .int (2 : Int32), .int a1, .int a2, .int (0 : Int32)]) E 12 117 (z_rV (st := []) (av := [.int (2 : Int32), .int a1, .int a2, .int (0 : Int32)]) E Y_X9_change k_X9_61 (ci := 11) rfl (zc_o (c_X9_change (z_El E) e3) (by rw [c5]; rfl)) dX9_uncite_5 e1 rfl rfl (by decide) (by decide) (by decide) (by decide) (Nat.zero_le _)) rfl rfl rfl ?_
    obtain rfl := Option.some.inj e
    exact z_iret E M dX9_uncite_8 rfl rfl rfl rfl (by decide) (by decide)
theorem c_X9_uncite {l : Launch} (hl : l.stackTraces = false) {h : PH} {a0 : Nat} {a1 : Int32} {a2 : Int32} {r : ((String ⊕ Int32) × PH)} (e : f_X9_uncite h a0 a1 a2 = some r) : CMet l yX9_uncite (z_W yX9_uncite cX9_uncite 3 (some .int)) rmX9_uncite h [.ref a0, .int a1, .int a2] (zoI r.1) r.2 :=
  z_met hl Y_X9_uncite (by decide +kernel) (Nat.le_of_ble_eq_true rfl) (fun X hX E T0 M => b_X9_uncite E T0 e M)
abbrev rmL_uncite : Room := { frames := 9, cells := 12, slots := 117, locals := 168 }
noncomputable def f_L_uncite (h : PH) (a0 : Nat) (a1 : Int32) (a2 : Int32) (a3 : Nat) : Option (Int32 × PH) :=
  (gd h a0 11).bind fun _ =>
  (f_X9_uncite h a0 a1 a2).bind fun p2 =>
  Sum.elim
    (fun E4 =>
    if E4 = "java/util/NoSuchElementException" then
      some ((1 : Int32), p2.2)
    else if E4 = "java/lang/IllegalArgumentException" then
      some ((2 : Int32), p2.2)
    else if E4 = "java/lang/UnsupportedOperationException" then
      some ((3 : Int32), p2.2)
    else none)
    (fun y6 =>
    (asL p2.2 a3 (0 : Int32) y6.toInt64).bind fun h10 =>
    some ((0 : Int32), h10)) p2.1
theorem b_L_uncite {X : PX} (E : z_E X cL_uncite RL "uncite" 5 rmL_uncite (some .int)) (TT : z_TT X [(0, 10, 13, 20), (0, 10, 17, 13), (0, 10, 21, 15)]) {h : PH} {a0 : Nat} {a1 : Int32} {a2 : Int32} {a3 : Nat} {r : (Int32 × PH)} (e : f_L_uncite h a0 a1 a2 a3 = some r) (M : z_M X rmL_uncite.cells rmL_uncite.slots (.inr (some (.int r.1))) r.2) : WP X 5 0 0 0 [(0, .ref a0), (1, .int a1), (2, .int a2), (3, .ref a3)] [] h := by
  unfold f_L_uncite at e
  refine z_aload_n E 3 dL_uncite_0 rfl ?_
  refine z_iconst E dL_uncite_1 ic_0 ?_
  refine z_aload_n E 0 dL_uncite_2 rfl ?_
  refine z_iload_n E 1 dL_uncite_3 rfl ?_
  refine z_iload_n E 2 dL_uncite_4 rfl ?_
  obtain ⟨_, e1, e⟩ := ob e
  obtain ⟨p2, e3, e⟩ := ob e
  rcases os e with ⟨E4, c5, e⟩ | ⟨y6, c5, e⟩
  · rcases oi e with ⟨c7, e⟩ | ⟨c7, e⟩
    · subst c7
      refine z_kX2 (st := [.int (0 : Int32), .ref a3]) (av := [.ref a0, .int a1, .int a2]) E 12 117 (z_rV (st := [.int (0 : Int32), .ref a3]) (av := [.int a1, .int a2]) E Y_X9_uncite k_L_22 (ci := 11) rfl (zc_o (c_X9_uncite (z_El E) e3) (by rw [c5]; rfl)) dL_uncite_5 e1 rfl rfl (by decide) (by decide) (by decide) (by decide) (Nat.le_of_ble_eq_true rfl)) rfl rfl rfl ?_
      refine z_catch (lv2 := [(0, .ref a0), (1, .int a1), (2, .int a2), (3, .ref a3)]) E TT 0 (q := (0, 10, 13, 20)) rfl rfl (by decide) cl_L_20 kb_NoSuchElementException (fun z hz => nomatch hz) (Or.inr ⟨dL_uncite_13, rfl⟩) (by decide) rfl ?_
      refine z_iconst E dL_uncite_15 ic_1 ?_
      obtain rfl := Option.some.inj e
      exact z_iret E M dL_uncite_16 rfl rfl rfl rfl (by decide) (by decide)
    rcases oi e with ⟨c8, e⟩ | ⟨c8, e⟩
    · subst c8
      refine z_kX2 (st := [.int (0 : Int32), .ref a3]) (av := [.ref a0, .int a1, .int a2]) E 12 117 (z_rV (st := [.int (0 : Int32), .ref a3]) (av := [.int a1, .int a2]) E Y_X9_uncite k_L_22 (ci := 11) rfl (zc_o (c_X9_uncite (z_El E) e3) (by rw [c5]; rfl)) dL_uncite_5 e1 rfl rfl (by decide) (by decide) (by decide) (by decide) (Nat.le_of_ble_eq_true rfl)) rfl rfl rfl ?_
      refine z_catch (lv2 := [(0, .ref a0), (1, .int a1), (2, .int a2), (3, .ref a3)]) E TT 1 (q := (0, 10, 17, 13)) rfl rfl (by decide) cl_L_13 kb_IllegalArgumentException (List.forall_mem_cons.mpr ⟨⟨by decide, "java/util/NoSuchElementException", cl_L_20, nc_IllegalArgumentException_NoSuchElementException⟩, (fun z hz => nomatch hz)⟩) (Or.inr ⟨dL_uncite_17, rfl⟩) (by decide) rfl ?_
      refine z_iconst E dL_uncite_19 ic_2 ?_
      obtain rfl := Option.some.inj e
      exact z_iret E M dL_uncite_20 rfl rfl rfl rfl (by decide) (by decide)
    rcases oi e with ⟨c9, e⟩ | ⟨c9, e⟩
    · subst c9
      refine z_kX2 (st := [.int (0 : Int32), .ref a3]) (av := [.ref a0, .int a1, .int a2]) E 12 117 (z_rV (st := [.int (0 : Int32), .ref a3]) (av := [.int a1, .int a2]) E Y_X9_uncite k_L_22 (ci := 11) rfl (zc_o (c_X9_uncite (z_El E) e3) (by rw [c5]; rfl)) dL_uncite_5 e1 rfl rfl (by decide) (by decide) (by decide) (by decide) (Nat.le_of_ble_eq_true rfl)) rfl rfl rfl ?_
      refine z_catch (lv2 := [(0, .ref a0), (1, .int a1), (2, .int a2), (3, .ref a3)]) E TT 2 (q := (0, 10, 21, 15)) rfl rfl (by decide) cl_L_15 kb_UnsupportedOperationException (List.forall_mem_cons.mpr ⟨⟨by decide, "java/util/NoSuchElementException", cl_L_20, nc_UnsupportedOperationException_NoSuchElementException⟩, (List.forall_mem_cons.mpr ⟨⟨by decide, "java/lang/IllegalArgumentException", cl_L_13, nc_UnsupportedOperationException_IllegalArgumentException⟩, (fun z hz => nomatch hz)⟩)⟩) (Or.inr ⟨dL_uncite_21, rfl⟩) (by decide) rfl ?_
      refine z_iconst E dL_uncite_23 ic_3 ?_
      obtain rfl := Option.some.inj e
      exact z_iret E M dL_uncite_24 rfl rfl rfl rfl (by decide) (by decide)
    cases e
  · refine z_kR2 (st := [.int (0 : Int32), .ref a3]) (av := [.ref a0, .int a1, .int a2]) E 12 117 (z_rV (st := [.int (0 : Int32), .ref a3]) (av := [.int a1, .int a2]) E Y_X9_uncite k_L_22 (ci := 11) rfl (zc_o (c_X9_uncite (z_El E) e3) (by rw [c5]; rfl)) dL_uncite_5 e1 rfl rfl (by decide) (by decide) (by decide) (by decide) (Nat.le_of_ble_eq_true rfl)) rfl rfl rfl ?_
    refine z_i2l (v := y6.toInt64) E dL_uncite_8 rfl ?_
    obtain ⟨h10, e11, e⟩ := ob e
    refine z_last E dL_uncite_9 e11 ?_
    refine z_goto (tgt := 25) E dL_uncite_10 rfl ?_
    refine z_iconst E dL_uncite_25 ic_0 ?_
    obtain rfl := Option.some.inj e
    exact z_iret E M dL_uncite_26 rfl rfl rfl rfl (by decide) (by decide)
theorem c_L_uncite {l : Launch} (hl : l.stackTraces = false) {h : PH} {a0 : Nat} {a1 : Int32} {a2 : Int32} {a3 : Nat} {r : (Int32 × PH)} (e : f_L_uncite h a0 a1 a2 a3 = some r) : CMet l yL_uncite (z_WH yL_uncite cL_uncite 5 (some .int) [(0, 10, 13, 20), (0, 10, 17, 13), (0, 10, 21, 15)]) rmL_uncite h [.ref a0, .int a1, .int a2, .ref a3] (.inr (some (.int r.1))) r.2 :=
  z_metH hl Y_L_uncite (by decide +kernel) (Nat.le_of_ble_eq_true rfl) (fun X hX E T0 M => b_L_uncite E T0 e M)
abbrev rmX10_uncite : Room := { frames := 4, cells := 0, slots := 0, locals := 88 }
noncomputable def f_X10_uncite (h : PH) (a0 : Nat) (a1 : Int32) (a2 : Int32) : Option (Int32 × PH) :=
  (gd h a0 12).bind fun _ =>
  (f_X10_turns h a0 a1 a2 (0 : Int32)).bind fun p2 =>
  some (p2.1, p2.2)
theorem b_X10_uncite {X : PX} (E : z_E X cX10_uncite RX10 "uncite" 3 rmX10_uncite (some .int)) (T0 : z_T0 X) {h : PH} {a0 : Nat} {a1 : Int32} {a2 : Int32} {r : (Int32 × PH)} (e : f_X10_uncite h a0 a1 a2 = some r) (M : z_M X rmX10_uncite.cells rmX10_uncite.slots (.inr (some (.int r.1))) r.2) : WP X 3 0 0 0 [(0, .ref a0), (1, .int a1), (2, .int a2)] [] h := by
  unfold f_X10_uncite at e
  refine z_aload_n E 0 dX10_uncite_0 rfl ?_
  refine z_iload_n E 1 dX10_uncite_1 rfl ?_
  refine z_iload_n E 2 dX10_uncite_2 rfl ?_
  refine z_iconst E dX10_uncite_3 ic_0 ?_
  obtain ⟨_, e1, e⟩ := ob e
  obtain ⟨p2, e3, e⟩ := ob e
  refine z_kR2 (st := []) (av := [.ref a0, .int a1, .int a2, .int (0 : Int32)]) E 0 0 (z_rV (st := []) (av := [.int a1, .int a2, .int (0 : Int32)]) E Y_X10_turns k_X10_103 (ci := 12) rfl (c_X10_turns (z_El E) e3) dX10_uncite_4 e1 rfl rfl (by decide) (by decide) (by decide) (by decide) (Nat.zero_le _)) rfl rfl rfl ?_
  obtain rfl := Option.some.inj e
  exact z_iret E M dX10_uncite_7 rfl rfl rfl rfl (by decide) (by decide)
theorem c_X10_uncite {l : Launch} (hl : l.stackTraces = false) {h : PH} {a0 : Nat} {a1 : Int32} {a2 : Int32} {r : (Int32 × PH)} (e : f_X10_uncite h a0 a1 a2 = some r) : CMet l yX10_uncite (z_W yX10_uncite cX10_uncite 3 (some .int)) rmX10_uncite h [.ref a0, .int a1, .int a2] (.inr (some (.int r.1))) r.2 :=
  z_met hl Y_X10_uncite (by decide +kernel) (Nat.le_of_ble_eq_true rfl) (fun X hX E T0 M => b_X10_uncite E T0 e M)
abbrev rmX9_noteCount : Room := { frames := 0, cells := 0, slots := 0, locals := 0 }
noncomputable def f_X9_noteCount (h : PH) (a0 : Nat) : Option Int32 :=
  (rdR h a0 11 0).bind fun x1 =>
  (rdI h x1 9 0).bind fun x3 =>
  some x3
theorem b_X9_noteCount {X : PX} (E : z_E X cX9_noteCount RX9 "noteCount" 1 rmX9_noteCount (some .int)) (T0 : z_T0 X) {h : PH} {a0 : Nat} {r : Int32} (e : f_X9_noteCount h a0 = some r) (M : z_M X rmX9_noteCount.cells rmX9_noteCount.slots (.inr (some (.int r))) h) : WP X 1 0 0 0 [(0, .ref a0)] [] h := by
  unfold f_X9_noteCount at e
  refine z_aload_n E 0 dX9_noteCount_0 rfl ?_
  obtain ⟨x1, e2, e⟩ := ob e
  refine z_getR E fl_X9_12 dX9_noteCount_1 e2 ?_
  obtain ⟨x3, e4, e⟩ := ob e
  refine z_getI E fl_X9_65 dX9_noteCount_4 e4 ?_
  obtain rfl := Option.some.inj e
  exact z_iret E M dX9_noteCount_7 rfl rfl rfl rfl (by decide) (by decide)
theorem c_X9_noteCount {l : Launch} (hl : l.stackTraces = false) {h : PH} {a0 : Nat} {r : Int32} (e : f_X9_noteCount h a0 = some r) : CMet l yX9_noteCount (z_W yX9_noteCount cX9_noteCount 1 (some .int)) rmX9_noteCount h [.ref a0] (.inr (some (.int r))) h :=
  z_met hl Y_X9_noteCount (by decide +kernel) (Nat.le_of_ble_eq_true rfl) (fun X hX E T0 M => b_X9_noteCount E T0 e M)
abbrev rmX10_noteCount : Room := { frames := 0, cells := 0, slots := 0, locals := 0 }
noncomputable def f_X10_noteCount (h : PH) (a0 : Nat) : Option (Int32 × PH) :=
  (wr h a0 12 8 (.int (0 : Int32))).bind fun h1 =>
  (rdR h1 a0 12 0).bind fun x3 =>
  (alI .int h1 x3 (0 : Int32)).bind fun x5 =>
  some (x5, h1)
theorem b_X10_noteCount {X : PX} (E : z_E X cX10_noteCount RX10 "noteCount" 1 rmX10_noteCount (some .int)) (T0 : z_T0 X) {h : PH} {a0 : Nat} {r : (Int32 × PH)} (e : f_X10_noteCount h a0 = some r) (M : z_M X rmX10_noteCount.cells rmX10_noteCount.slots (.inr (some (.int r.1))) r.2) : WP X 1 0 0 0 [(0, .ref a0)] [] h := by
  unfold f_X10_noteCount at e
  refine z_aload_n E 0 dX10_noteCount_0 rfl ?_
  refine z_iconst E dX10_noteCount_1 ic_0 ?_
  obtain ⟨h1, e2, e⟩ := ob e
  refine z_putI E fp_X10_36 (Or.inl rfl) dX10_noteCount_2 e2 ?_
  refine z_aload_n E 0 dX10_noteCount_5 rfl ?_
  obtain ⟨x3, e4, e⟩ := ob e
  refine z_getR E fl_X10_7 dX10_noteCount_6 e4 ?_
  refine z_iconst E dX10_noteCount_9 ic_0 ?_
  obtain ⟨x5, e6, e⟩ := ob e
  refine z_iald E dX10_noteCount_10 e6 ?_
  obtain rfl := Option.some.inj e
  exact z_iret E M dX10_noteCount_11 rfl rfl rfl rfl (by decide) (by decide)
theorem c_X10_noteCount {l : Launch} (hl : l.stackTraces = false) {h : PH} {a0 : Nat} {r : (Int32 × PH)} (e : f_X10_noteCount h a0 = some r) : CMet l yX10_noteCount (z_W yX10_noteCount cX10_noteCount 1 (some .int)) rmX10_noteCount h [.ref a0] (.inr (some (.int r.1))) r.2 :=
  z_met hl Y_X10_noteCount (by decide +kernel) (Nat.le_of_ble_eq_true rfl) (fun X hX E T0 M => b_X10_noteCount E T0 e M)
abbrev rmX9_needNote : Room := { frames := 6, cells := 1, slots := 6, locals := 92 }
noncomputable def f_X9_needNote (h : PH) (a0 : Nat) (a1 : Int32) : Option (String ⊕ Unit) :=
  (rdR h a0 11 0).bind fun x1 =>
  (gd h x1 9).bind fun _ =>
  (f_X7_hasNote h x1 a1).bind fun p4 =>
  if p4 = true then
    some (Sum.inr ())
  else
    some (Sum.inl "java/util/NoSuchElementException")
theorem b_X9_needNote {X : PX} (E : z_E X cX9_needNote RX9 "needNote" 2 rmX9_needNote none) (T0 : z_T0 X) {h : PH} {a0 : Nat} {a1 : Int32} {r : (String ⊕ Unit)} (e : f_X9_needNote h a0 a1 = some r) (M : z_M X rmX9_needNote.cells rmX9_needNote.slots (zoV r) h) : WP X 2 0 0 0 [(0, .ref a0), (1, .int a1)] [] h := by
  unfold f_X9_needNote at e
  refine z_aload_n E 0 dX9_needNote_0 rfl ?_
  obtain ⟨x1, e2, e⟩ := ob e
  refine z_getR E fl_X9_12 dX9_needNote_1 e2 ?_
  refine z_iload_n E 1 dX9_needNote_4 rfl ?_
  obtain ⟨_, e3, e⟩ := ob e
  obtain ⟨p4, e5, e⟩ := ob e
  refine z_kR2 (st := []) (av := [.ref x1, .int a1]) E 0 0 (z_rV (st := []) (av := [.int a1]) E Y_X7_hasNote k_X9_116 (ci := 9) rfl (c_X7_hasNote (z_El E) e5) dX9_needNote_5 e3 rfl rfl (by decide) (by decide) (by decide) (by decide) (Nat.zero_le _)) rfl rfl rfl ?_
  rcases oi e with ⟨c6, e⟩ | ⟨c6, e⟩
  · refine z_if_neT (tgt := 22) E dX9_needNote_8 rfl (zb_t c6) ?_
    obtain rfl := Option.some.inj e
    exact z_vret E M dX9_needNote_22 rfl rfl rfl (by decide) (by decide)
  · refine z_if_neF (tgt := 22) E dX9_needNote_8 rfl (zb_nt c6) ?_
    obtain rfl := Option.some.inj e
    exact z_throw E 7 th_X9_120_334_124 T0 M dX9_needNote_11 dX9_needNote_14 (Or.inr ⟨dX9_needNote_15, rfl⟩) dX9_needNote_18 dX9_needNote_21 rfl rfl (by decide) (Nat.le_of_ble_eq_true rfl) (by decide) (by decide) (by decide) (by decide)
theorem c_X9_needNote {l : Launch} (hl : l.stackTraces = false) {h : PH} {a0 : Nat} {a1 : Int32} {r : (String ⊕ Unit)} (e : f_X9_needNote h a0 a1 = some r) : CMet l yX9_needNote (z_W yX9_needNote cX9_needNote 2 none) rmX9_needNote h [.ref a0, .int a1] (zoV r) h :=
  z_met hl Y_X9_needNote (by decide +kernel) (Nat.le_of_ble_eq_true rfl) (fun X hX E T0 M => b_X9_needNote E T0 e M)
abbrev rmX9_pageOf : Room := { frames := 7, cells := 1, slots := 6, locals := 113 }
noncomputable def f_X9_pageOf (h : PH) (a0 : Nat) (a1 : Int32) : Option (String ⊕ Int32) :=
  (gd h a0 11).bind fun _ =>
  (f_X9_needNote h a0 a1).bind fun p2 =>
  Sum.elim
    (fun E4 =>
    some (Sum.inl E4))
    (fun y6 =>
    (rdR h a0 11 0).bind fun x7 =>
    (rdR h x7 9 1).bind fun x9 =>
    (alI .int h x9 a1).bind fun x11 =>
    some (Sum.inr x11)) p2
theorem b_X9_pageOf {X : PX} (E : z_E X cX9_pageOf RX9 "pageOf" 2 rmX9_pageOf (some .int)) (T0 : z_T0 X) {h : PH} {a0 : Nat} {a1 : Int32} {r : (String ⊕ Int32)} (e : f_X9_pageOf h a0 a1 = some r) (M : z_M X rmX9_pageOf.cells rmX9_pageOf.slots (zoI r) h) : WP X 2 0 0 0 [(0, .ref a0), (1, .int a1)] [] h := by
  unfold f_X9_pageOf at e
  refine z_aload_n E 0 dX9_pageOf_0 rfl ?_
  refine z_iload_n E 1 dX9_pageOf_1 rfl ?_
  obtain ⟨_, e1, e⟩ := ob e
  obtain ⟨p2, e3, e⟩ := ob e
  rcases os e with ⟨E4, c5, e⟩ | ⟨y6, c5, e⟩
  · obtain rfl := Option.some.inj e
    refine z_kX2 (st := []) (av := [.ref a0, .int a1]) E 1 6 (z_rV (st := []) (av := [.int a1]) E Y_X9_needNote k_X9_69 (ci := 11) rfl (zc_o (c_X9_needNote (z_El E) e3) (by rw [c5]; rfl)) dX9_pageOf_2 e1 rfl rfl (by decide) (by decide) (by decide) (by decide) (Nat.zero_le _)) rfl rfl rfl ?_
    exact z_outX E T0 M rfl rfl (by decide) (by decide)
  · refine z_kV2 (st := []) (av := [.ref a0, .int a1]) E 1 6 (z_rV (st := []) (av := [.int a1]) E Y_X9_needNote k_X9_69 (ci := 11) rfl (zc_o (c_X9_needNote (z_El E) e3) (by rw [c5]; rfl)) dX9_pageOf_2 e1 rfl rfl (by decide) (by decide) (by decide) (by decide) (Nat.zero_le _)) rfl rfl rfl ?_
    refine z_aload_n E 0 dX9_pageOf_5 rfl ?_
    obtain ⟨x7, e8, e⟩ := ob e
    refine z_getR E fl_X9_12 dX9_pageOf_6 e8 ?_
    obtain ⟨x9, e10, e⟩ := ob e
    refine z_getR E fl_X9_73 dX9_pageOf_9 e10 ?_
    refine z_iload_n E 1 dX9_pageOf_12 rfl ?_
    obtain ⟨x11, e12, e⟩ := ob e
    refine z_iald E dX9_pageOf_13 e12 ?_
    obtain rfl := Option.some.inj e
    exact z_iret E M dX9_pageOf_14 rfl rfl rfl rfl (by decide) (by decide)
theorem c_X9_pageOf {l : Launch} (hl : l.stackTraces = false) {h : PH} {a0 : Nat} {a1 : Int32} {r : (String ⊕ Int32)} (e : f_X9_pageOf h a0 a1 = some r) : CMet l yX9_pageOf (z_W yX9_pageOf cX9_pageOf 2 (some .int)) rmX9_pageOf h [.ref a0, .int a1] (zoI r) h :=
  z_met hl Y_X9_pageOf (by decide +kernel) (Nat.le_of_ble_eq_true rfl) (fun X hX E T0 M => b_X9_pageOf E T0 e M)
abbrev rmL_pageOf : Room := { frames := 8, cells := 1, slots := 6, locals := 134 }
noncomputable def f_L_pageOf (h : PH) (a0 : Nat) (a1 : Int32) (a2 : Nat) : Option (Int32 × PH) :=
  (gd h a0 11).bind fun _ =>
  (f_X9_pageOf h a0 a1).bind fun p2 =>
  Sum.elim
    (fun E4 =>
    if E4 = "java/util/NoSuchElementException" then
      some ((1 : Int32), h)
    else none)
    (fun y6 =>
    (asL h a2 (0 : Int32) y6.toInt64).bind fun h8 =>
    some ((0 : Int32), h8)) p2
theorem b_L_pageOf {X : PX} (E : z_E X cL_pageOf RL "pageOf" 4 rmL_pageOf (some .int)) (TT : z_TT X [(0, 9, 12, 20)]) {h : PH} {a0 : Nat} {a1 : Int32} {a2 : Nat} {r : (Int32 × PH)} (e : f_L_pageOf h a0 a1 a2 = some r) (M : z_M X rmL_pageOf.cells rmL_pageOf.slots (.inr (some (.int r.1))) r.2) : WP X 4 0 0 0 [(0, .ref a0), (1, .int a1), (2, .ref a2)] [] h := by
  unfold f_L_pageOf at e
  refine z_aload_n E 2 dL_pageOf_0 rfl ?_
  refine z_iconst E dL_pageOf_1 ic_0 ?_
  refine z_aload_n E 0 dL_pageOf_2 rfl ?_
  refine z_iload_n E 1 dL_pageOf_3 rfl ?_
  obtain ⟨_, e1, e⟩ := ob e
  obtain ⟨p2, e3, e⟩ := ob e
  rcases os e with ⟨E4, c5, e⟩ | ⟨y6, c5, e⟩
  · rcases oi e with ⟨c7, e⟩ | ⟨c7, e⟩
    · subst c7
      refine z_kX2 (st := [.int (0 : Int32), .ref a2]) (av := [.ref a0, .int a1]) E 1 6 (z_rV (st := [.int (0 : Int32), .ref a2]) (av := [.int a1]) E Y_X9_pageOf k_L_25 (ci := 11) rfl (zc_o (c_X9_pageOf (z_El E) e3) (by rw [c5]; rfl)) dL_pageOf_4 e1 rfl rfl (by decide) (by decide) (by decide) (by decide) (Nat.le_of_ble_eq_true rfl)) rfl rfl rfl ?_
      refine z_catch (lv2 := [(0, .ref a0), (1, .int a1), (2, .ref a2)]) E TT 0 (q := (0, 9, 12, 20)) rfl rfl (by decide) cl_L_20 kb_NoSuchElementException (fun z hz => nomatch hz) (Or.inl ⟨_, dL_pageOf_12, rfl, rfl⟩) (by decide) rfl ?_
      refine z_iconst E dL_pageOf_13 ic_1 ?_
      obtain rfl := Option.some.inj e
      exact z_iret E M dL_pageOf_14 rfl rfl rfl rfl (by decide) (by decide)
    cases e
  · refine z_kR2 (st := [.int (0 : Int32), .ref a2]) (av := [.ref a0, .int a1]) E 1 6 (z_rV (st := [.int (0 : Int32), .ref a2]) (av := [.int a1]) E Y_X9_pageOf k_L_25 (ci := 11) rfl (zc_o (c_X9_pageOf (z_El E) e3) (by rw [c5]; rfl)) dL_pageOf_4 e1 rfl rfl (by decide) (by decide) (by decide) (by decide) (Nat.le_of_ble_eq_true rfl)) rfl rfl rfl ?_
    refine z_i2l (v := y6.toInt64) E dL_pageOf_7 rfl ?_
    obtain ⟨h8, e9, e⟩ := ob e
    refine z_last E dL_pageOf_8 e9 ?_
    refine z_goto (tgt := 15) E dL_pageOf_9 rfl ?_
    refine z_iconst E dL_pageOf_15 ic_0 ?_
    obtain rfl := Option.some.inj e
    exact z_iret E M dL_pageOf_16 rfl rfl rfl rfl (by decide) (by decide)
theorem c_L_pageOf {l : Launch} (hl : l.stackTraces = false) {h : PH} {a0 : Nat} {a1 : Int32} {a2 : Nat} {r : (Int32 × PH)} (e : f_L_pageOf h a0 a1 a2 = some r) : CMet l yL_pageOf (z_WH yL_pageOf cL_pageOf 4 (some .int) [(0, 9, 12, 20)]) rmL_pageOf h [.ref a0, .int a1, .ref a2] (.inr (some (.int r.1))) r.2 :=
  z_metH hl Y_L_pageOf (by decide +kernel) (Nat.le_of_ble_eq_true rfl) (fun X hX E T0 M => b_L_pageOf E T0 e M)
abbrev rmX10_isNone : Room := { frames := 2, cells := 0, slots := 0, locals := 43 }
noncomputable def f_X10_isNone (h : PH) (a0 : Nat) (a1 : Int32) : Option (Bool × PH) :=
  (gd h a0 12).bind fun _ =>
  (f_X10_isNote h a0 a1).bind fun p2 =>
  if p2 = false then
    (gd h a0 12).bind fun _ =>
    (f_X10_fails h a0 (1 : Int32)).bind fun p6 =>
    some (p6.1, p6.2)
  else
    (gd h a0 12).bind fun _ =>
    (f_X10_fails h a0 (0 : Int32)).bind fun p9 =>
    some (p9.1, p9.2)
theorem b_X10_isNone {X : PX} (E : z_E X cX10_isNone RX10 "isNone" 2 rmX10_isNone (some .boolean)) (T0 : z_T0 X) {h : PH} {a0 : Nat} {a1 : Int32} {r : (Bool × PH)} (e : f_X10_isNone h a0 a1 = some r) (M : z_M X rmX10_isNone.cells rmX10_isNone.slots (.inr (some (.int (zb r.1)))) r.2) : WP X 2 0 0 0 [(0, .ref a0), (1, .int a1)] [] h := by
  unfold f_X10_isNone at e
  refine z_aload_n E 0 dX10_isNone_0 rfl ?_
  refine z_aload_n E 0 dX10_isNone_1 rfl ?_
  refine z_iload_n E 1 dX10_isNone_2 rfl ?_
  obtain ⟨_, e1, e⟩ := ob e
  obtain ⟨p2, e3, e⟩ := ob e
  refine z_kR2 (st := [.ref a0]) (av := [.ref a0, .int a1]) E 0 0 (z_rV (st := [.ref a0]) (av := [.int a1]) E Y_X10_isNote k_X10_66 (ci := 12) rfl (c_X10_isNote (z_El E) e3) dX10_isNone_3 e1 rfl rfl (by decide) (by decide) (by decide) (by decide) (Nat.le_of_ble_eq_true rfl)) rfl rfl rfl ?_
  rcases oi e with ⟨c4, e⟩ | ⟨c4, e⟩
  · refine z_if_eqT (tgt := 13) E dX10_isNone_6 rfl (zb_f c4) ?_
    refine z_iconst E dX10_isNone_13 ic_1 ?_
    obtain ⟨_, e5, e⟩ := ob e
    obtain ⟨p6, e7, e⟩ := ob e
    refine z_kR2 (st := []) (av := [.ref a0, .int (1 : Int32)]) E 0 0 (z_rV (st := []) (av := [.int (1 : Int32)]) E Y_X10_fails k_X10_70 (ci := 12) rfl (c_X10_fails (z_El E) e7) dX10_isNone_14 e5 rfl rfl (by decide) (by decide) (by decide) (by decide) (Nat.zero_le _)) rfl rfl rfl ?_
    obtain rfl := Option.some.inj e
    exact z_iret E M dX10_isNone_17 rfl (zb_nar _) rfl rfl (by decide) (by decide)
  · refine z_if_eqF (tgt := 13) E dX10_isNone_6 rfl (zb_nf c4) ?_
    refine z_iconst E dX10_isNone_9 ic_0 ?_
    refine z_goto (tgt := 14) E dX10_isNone_10 rfl ?_
    obtain ⟨_, e8, e⟩ := ob e
    obtain ⟨p9, e10, e⟩ := ob e
    refine z_kR2 (st := []) (av := [.ref a0, .int (0 : Int32)]) E 0 0 (z_rV (st := []) (av := [.int (0 : Int32)]) E Y_X10_fails k_X10_70 (ci := 12) rfl (c_X10_fails (z_El E) e10) dX10_isNone_14 e8 rfl rfl (by decide) (by decide) (by decide) (by decide) (Nat.zero_le _)) rfl rfl rfl ?_
    obtain rfl := Option.some.inj e
    exact z_iret E M dX10_isNone_17 rfl (zb_nar _) rfl rfl (by decide) (by decide)
theorem c_X10_isNone {l : Launch} (hl : l.stackTraces = false) {h : PH} {a0 : Nat} {a1 : Int32} {r : (Bool × PH)} (e : f_X10_isNone h a0 a1 = some r) : CMet l yX10_isNone (z_W yX10_isNone cX10_isNone 2 (some .boolean)) rmX10_isNone h [.ref a0, .int a1] (.inr (some (.int (zb r.1)))) r.2 :=
  z_met hl Y_X10_isNone (by decide +kernel) (Nat.le_of_ble_eq_true rfl) (fun X hX E T0 M => b_X10_isNone E T0 e M)
