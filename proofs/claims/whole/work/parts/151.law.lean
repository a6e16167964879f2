noncomputable def f_L_case29 (h : PH) (v0 : Nat) (v1 : Nat) (v2 : Nat) (v3 : Nat) (v4 : Nat) (v5 : Int32) : Option PH :=
  (f_L_land h v1 v3).bind fun p1 =>
  (gd p1.2 v2 12).bind fun _ =>
  (f_X10_land p1.2 v2).bind fun p4 =>
  (gd p4.2 v2 12).bind fun _ =>
  (f_X10_thrown p4.2 v2).bind fun p7 =>
  if p7 = p1.1 then
    if ¬ p1.1 = 0 then
      some p4.2
    else
      (alL p4.2 v3 (0 : Int32)).bind fun x11 =>
      if (lg_cmp x11 p4.1.toInt64) = 0 then
        some p4.2
      else
        none
  else
    none
theorem b_L_case29 {X : PX} (E : z_E X cL_law RL "law" 9 room_1 (some .boolean)) {k n KB NB : Nat} (hk : k + 12 ≤ KB) (hn : n + 117 ≤ NB) (hKB : KB ≤ room_1.cells) (hNB : NB ≤ room_1.slots) {h : PH} {v0 v1 v2 v3 v4 : Nat} {v5 : Int32} {s : PH} (e : f_L_case29 h v0 v1 v2 v3 v4 v5 = some s) (kk : WP X 9 KB NB 2815 [(0, .ref v0), (1, .ref v1), (2, .ref v2), (3, .ref v3), (4, .ref v4), (5, .int v5)] [] s) : WP X 9 k n 1787 [(0, .ref v0), (1, .ref v1), (2, .ref v2), (3, .ref v3), (4, .ref v4), (5, .int v5)] [] h := by
  unfold f_L_case29 at e
  refine z_aload_n E 1 dL_law_1787 rfl ?_
  refine z_aload_n E 3 dL_law_1788 rfl ?_
  obtain ⟨p1, e2, e⟩ := ob e
  refine z_kR2 (st := []) (av := [.ref v1, .ref v3]) E (k + 12) (n + 117) (z_rSX (st := []) (av := [.ref v1, .ref v3]) E Y_L_land k_L_257 (c_L_land (z_El E) e2) dL_law_1789 rfl rfl (by decide) (by decide) (Nat.le_trans (zk (k := k) (a := 12) hk (by decide)) hKB) (Nat.le_trans (zk (k := n) (a := 117) hn (by decide)) hNB) (Nat.zero_le _)) rfl rfl rfl ?_
  refine z_istore (lv2 := [(6, .int p1.1), (0, .ref v0), (1, .ref v1), (2, .ref v2), (3, .ref v3), (4, .ref v4), (5, .int v5)]) E dL_law_1792 (by decide) rfl ?_
  refine z_aload_n E 3 dL_law_1794 rfl ?_
  obtain ⟨_, e3, e⟩ := ob e
  obtain ⟨p4, e5, e⟩ := ob e
  refine z_kR2 (st := []) (av := [.ref v2]) E (k + 12) (n + 117) (z_rV (st := []) (av := []) E Y_X10_land k_L_259 (ci := 12) rfl (c_X10_land (z_El E) e5) dL_law_1795 e3 rfl rfl (by decide) (by decide) (Nat.le_trans (zk (k := k) (a := 12) hk (by decide)) hKB) (Nat.le_trans (zk (k := n) (a := 117) hn (by decide)) hNB) (Nat.zero_le _)) rfl rfl rfl ?_
  refine z_istore (lv2 := [(7, .int p4.1), (6, .int p1.1), (0, .ref v0), (1, .ref v1), (2, .ref v2), (3, .ref v3), (4, .ref v4), (5, .int v5)]) E dL_law_1798 (by decide) rfl ?_
  refine z_aload_n E 4 dL_law_1800 rfl ?_
  obtain ⟨_, e6, e⟩ := ob e
  obtain ⟨p7, e8, e⟩ := ob e
  refine z_kR2 (st := []) (av := [.ref v2]) E (k + 12) (n + 117) (z_rV (st := []) (av := []) E Y_X10_thrown k_L_161 (ci := 12) rfl (c_X10_thrown (z_El E) e8) dL_law_1801 e6 rfl rfl (by decide) (by decide) (Nat.le_trans (zk (k := k) (a := 12) hk (by decide)) hKB) (Nat.le_trans (zk (k := n) (a := 117) hn (by decide)) hNB) (Nat.zero_le _)) rfl rfl rfl ?_
  refine z_iload E 1 dL_law_1804 rfl ?_
  rcases oi e with ⟨c9, e⟩ | ⟨c9, e⟩
  · refine z_icmp_eqT (tgt := 1811) E dL_law_1806 rfl c9 ?_
    refine z_iload E 1 dL_law_1811 rfl ?_
    rcases oi e with ⟨c10, e⟩ | ⟨c10, e⟩
    · refine z_if_neT (tgt := 1828) E dL_law_1813 rfl c10 ?_
      refine z_goto (tgt := 2815) E dL_law_1828 rfl ?_
      obtain rfl := Option.some.inj e
      exact z_sub [2, 3, 4, 5, 6, 7] rfl (z_wide (zk (k := k) (a := 12) hk (by decide)) (zk (k := n) (a := 117) hn (by decide)) kk)
    · refine z_if_neF (tgt := 1828) E dL_law_1813 rfl (Classical.not_not.mp c10) ?_
      refine z_aload_n E 5 dL_law_1816 rfl ?_
      refine z_iconst E dL_law_1817 ic_0 ?_
      obtain ⟨x11, e12, e⟩ := ob e
      refine z_lald E dL_law_1818 e12 ?_
      refine z_iload E 0 dL_law_1819 rfl ?_
      refine z_i2l (v := p4.1.toInt64) E dL_law_1821 rfl ?_
      refine z_lcmp E dL_law_1822 ?_
      rcases oi e with ⟨c13, e⟩ | ⟨c13, e⟩
      · refine z_if_eqT (tgt := 1828) E dL_law_1823 rfl c13 ?_
        refine z_goto (tgt := 2815) E dL_law_1828 rfl ?_
        obtain rfl := Option.some.inj e
        exact z_sub [2, 3, 4, 5, 6, 7] rfl (z_wide (zk (k := k) (a := 12) hk (by decide)) (zk (k := n) (a := 117) hn (by decide)) kk)
      · refine z_if_eqF (tgt := 1828) E dL_law_1823 rfl c13 ?_
        cases e
  · refine z_icmp_eqF (tgt := 1811) E dL_law_1806 rfl c9 ?_
    cases e
noncomputable def f_L_case30 (h : PH) (v0 : Nat) (v1 : Nat) (v2 : Nat) (v3 : Nat) (v4 : Nat) (v5 : Int32) : Option PH :=
  (alI .int h v0 (v5 + (1 : Int32))).bind fun x1 =>
  (f_L_free h v1 x1 v3).bind fun p3 =>
  (alI .int p3.2 v0 (v5 + (1 : Int32))).bind fun x5 =>
  (gd p3.2 v2 12).bind fun _ =>
  (f_X10_free p3.2 v2 x5).bind fun p8 =>
  (gd p8.2 v2 12).bind fun _ =>
  (f_X10_thrown p8.2 v2).bind fun p11 =>
  if p11 = p3.1 then
    if ¬ p3.1 = 0 then
      some p8.2
    else
      (alL p8.2 v3 (0 : Int32)).bind fun x15 =>
      if (lg_cmp x15 p8.1.toInt64) = 0 then
        some p8.2
      else
        none
  else
    none
theorem b_L_case30 {X : PX} (E : z_E X cL_law RL "law" 9 room_1 (some .boolean)) {k n KB NB : Nat} (hk : k + 12 ≤ KB) (hn : n + 117 ≤ NB) (hKB : KB ≤ room_1.cells) (hNB : NB ≤ room_1.slots) {h : PH} {v0 v1 v2 v3 v4 : Nat} {v5 : Int32} {s : PH} (e : f_L_case30 h v0 v1 v2 v3 v4 v5 = some s) (kk : WP X 9 KB NB 2815 [(0, .ref v0), (1, .ref v1), (2, .ref v2), (3, .ref v3), (4, .ref v4), (5, .int v5)] [] s) : WP X 9 k n 1831 [(0, .ref v0), (1, .ref v1), (2, .ref v2), (3, .ref v3), (4, .ref v4), (5, .int v5)] [] h := by
  unfold f_L_case30 at e
  refine z_aload_n E 1 dL_law_1831 rfl ?_
  refine z_aload_n E 0 dL_law_1832 rfl ?_
  refine z_iload E 5 dL_law_1833 rfl ?_
  refine z_iconst E dL_law_1835 ic_1 ?_
  refine z_iadd E dL_law_1836 ?_
  obtain ⟨x1, e2, e⟩ := ob e
  refine z_iald E dL_law_1837 e2 ?_
  refine z_aload_n E 3 dL_law_1838 rfl ?_
  obtain ⟨p3, e4, e⟩ := ob e
  refine z_kR2 (st := []) (av := [.ref v1, .int x1, .ref v3]) E (k + 12) (n + 117) (z_rSX (st := []) (av := [.ref v1, .int x1, .ref v3]) E Y_L_free k_L_260 (c_L_free (z_El E) e4) dL_law_1839 rfl rfl (by decide) (by decide) (Nat.le_trans (zk (k := k) (a := 12) hk (by decide)) hKB) (Nat.le_trans (zk (k := n) (a := 117) hn (by decide)) hNB) (Nat.zero_le _)) rfl rfl rfl ?_
  refine z_istore (lv2 := [(6, .int p3.1), (0, .ref v0), (1, .ref v1), (2, .ref v2), (3, .ref v3), (4, .ref v4), (5, .int v5)]) E dL_law_1842 (by decide) rfl ?_
  refine z_aload_n E 3 dL_law_1844 rfl ?_
  refine z_aload_n E 1 dL_law_1845 rfl ?_
  refine z_iload E 6 dL_law_1846 rfl ?_
  refine z_iconst E dL_law_1848 ic_1 ?_
  refine z_iadd E dL_law_1849 ?_
  obtain ⟨x5, e6, e⟩ := ob e
  refine z_iald E dL_law_1850 e6 ?_
  obtain ⟨_, e7, e⟩ := ob e
  obtain ⟨p8, e9, e⟩ := ob e
  refine z_kR2 (st := []) (av := [.ref v2, .int x5]) E (k + 12) (n + 117) (z_rV (st := []) (av := [.int x5]) E Y_X10_free k_L_262 (ci := 12) rfl (c_X10_free (z_El E) e9) dL_law_1851 e7 rfl rfl (by decide) (by decide) (Nat.le_trans (zk (k := k) (a := 12) hk (by decide)) hKB) (Nat.le_trans (zk (k := n) (a := 117) hn (by decide)) hNB) (Nat.zero_le _)) rfl rfl rfl ?_
  refine z_istore (lv2 := [(7, .int p8.1), (6, .int p3.1), (0, .ref v0), (1, .ref v1), (2, .ref v2), (3, .ref v3), (4, .ref v4), (5, .int v5)]) E dL_law_1854 (by decide) rfl ?_
  refine z_aload_n E 4 dL_law_1856 rfl ?_
  obtain ⟨_, e10, e⟩ := ob e
  obtain ⟨p11, e12, e⟩ := ob e
  refine z_kR2 (st := []) (av := [.ref v2]) E (k + 12) (n + 117) (z_rV (st := []) (av := []) E Y_X10_thrown k_L_161 (ci := 12) rfl (c_X10_thrown (z_El E) e12) dL_law_1857 e10 rfl rfl (by decide) (by decide) (Nat.le_trans (zk (k := k) (a := 12) hk (by decide)) hKB) (Nat.le_trans (zk (k := n) (a := 117) hn (by decide)) hNB) (Nat.zero_le _)) rfl rfl rfl ?_
  refine z_iload E 1 dL_law_1860 rfl ?_
  rcases oi e with ⟨c13, e⟩ | ⟨c13, e⟩
  · refine z_icmp_eqT (tgt := 1867) E dL_law_1862 rfl c13 ?_
    refine z_iload E 1 dL_law_1867 rfl ?_
    rcases oi e with ⟨c14, e⟩ | ⟨c14, e⟩
    · refine z_if_neT (tgt := 1884) E dL_law_1869 rfl c14 ?_
      refine z_goto (tgt := 2815) E dL_law_1884 rfl ?_
      obtain rfl := Option.some.inj e
      exact z_sub [2, 3, 4, 5, 6, 7] rfl (z_wide (zk (k := k) (a := 12) hk (by decide)) (zk (k := n) (a := 117) hn (by decide)) kk)
    · refine z_if_neF (tgt := 1884) E dL_law_1869 rfl (Classical.not_not.mp c14) ?_
      refine z_aload_n E 5 dL_law_1872 rfl ?_
      refine z_iconst E dL_law_1873 ic_0 ?_
      obtain ⟨x15, e16, e⟩ := ob e
      refine z_lald E dL_law_1874 e16 ?_
      refine z_iload E 0 dL_law_1875 rfl ?_
      refine z_i2l (v := p8.1.toInt64) E dL_law_1877 rfl ?_
      refine z_lcmp E dL_law_1878 ?_
      rcases oi e with ⟨c17, e⟩ | ⟨c17, e⟩
      · refine z_if_eqT (tgt := 1884) E dL_law_1879 rfl c17 ?_
        refine z_goto (tgt := 2815) E dL_law_1884 rfl ?_
        obtain rfl := Option.some.inj e
        exact z_sub [2, 3, 4, 5, 6, 7] rfl (z_wide (zk (k := k) (a := 12) hk (by decide)) (zk (k := n) (a := 117) hn (by decide)) kk)
      · refine z_if_eqF (tgt := 1884) E dL_law_1879 rfl c17 ?_
        cases e
  · refine z_icmp_eqF (tgt := 1867) E dL_law_1862 rfl c13 ?_
    cases e
noncomputable def f_L_case31 (h : PH) (v0 : Nat) (v1 : Nat) (v2 : Nat) (v3 : Nat) (v4 : Nat) (v5 : Int32) : Option PH :=
  (gd h v1 11).bind fun _ =>
  (f_X9_heldCount h v1).bind fun p2 =>
  (gd h v2 12).bind fun _ =>
  (f_X10_heldCount h v2).bind fun p5 =>
  if p2 = p5.1 then
    some p5.2
  else
    none
theorem b_L_case31 {X : PX} (E : z_E X cL_law RL "law" 9 room_1 (some .boolean)) {k n KB NB : Nat} (hk : k + 0 ≤ KB) (hn : n + 0 ≤ NB) (hKB : KB ≤ room_1.cells) (hNB : NB ≤ room_1.slots) {h : PH} {v0 v1 v2 v3 v4 : Nat} {v5 : Int32} {s : PH} (e : f_L_case31 h v0 v1 v2 v3 v4 v5 = some s) (kk : WP X 9 KB NB 2815 [(0, .ref v0), (1, .ref v1), (2, .ref v2), (3, .ref v3), (4, .ref v4), (5, .int v5)] [] s) : WP X 9 k n 1887 [(0, .ref v0), (1, .ref v1), (2, .ref v2), (3, .ref v3), (4, .ref v4), (5, .int v5)] [] h := by
  unfold f_L_case31 at e
  refine z_aload_n E 1 dL_law_1887 rfl ?_
  obtain ⟨_, e1, e⟩ := ob e
  obtain ⟨p2, e3, e⟩ := ob e
  refine z_kR2 (st := []) (av := [.ref v1]) E k n (z_rV (st := []) (av := []) E Y_X9_heldCount k_L_263 (ci := 11) rfl (c_X9_heldCount (z_El E) e3) dL_law_1888 e1 rfl rfl (by decide) (by decide) (Nat.le_trans (zk (k := k) (a := 0) hk (by decide)) hKB) (Nat.le_trans (zk (k := n) (a := 0) hn (by decide)) hNB) (Nat.zero_le _)) rfl rfl rfl ?_
  refine z_aload_n E 2 dL_law_1891 rfl ?_
  obtain ⟨_, e4, e⟩ := ob e
  obtain ⟨p5, e6, e⟩ := ob e
  refine z_kR2 (st := [.int p2]) (av := [.ref v2]) E k n (z_rV (st := [.int p2]) (av := []) E Y_X10_heldCount k_L_266 (ci := 12) rfl (c_X10_heldCount (z_El E) e6) dL_law_1892 e4 rfl rfl (by decide) (by decide) (Nat.le_trans (zk (k := k) (a := 0) hk (by decide)) hKB) (Nat.le_trans (zk (k := n) (a := 0) hn (by decide)) hNB) (Nat.le_of_ble_eq_true rfl)) rfl rfl rfl ?_
  rcases oi e with ⟨c7, e⟩ | ⟨c7, e⟩
  · refine z_icmp_eqT (tgt := 2815) E dL_law_1895 rfl c7 ?_
    obtain rfl := Option.some.inj e
    exact z_sub [0, 1, 2, 3, 4, 5] rfl (z_wide (zk (k := k) (a := 0) hk (by decide)) (zk (k := n) (a := 0) hn (by decide)) kk)
  · refine z_icmp_eqF (tgt := 2815) E dL_law_1895 rfl c7 ?_
    cases e
noncomputable def f_L_case32 (h : PH) (v0 : Nat) (v1 : Nat) (v2 : Nat) (v3 : Nat) (v4 : Nat) (v5 : Int32) : Option PH :=
  (gd h v1 11).bind fun _ =>
  (f_X9_bestLanding h v1).bind fun p2 =>
  (gd p2.2 v2 12).bind fun _ =>
  (f_X10_bestLanding p2.2 v2).bind fun p5 =>
  if p2.1 = p5.1 then
    some p5.2
  else
    none
theorem b_L_case32 {X : PX} (E : z_E X cL_law RL "law" 9 room_1 (some .boolean)) {k n KB NB : Nat} (hk : k + 0 ≤ KB) (hn : n + 0 ≤ NB) (hKB : KB ≤ room_1.cells) (hNB : NB ≤ room_1.slots) {h : PH} {v0 v1 v2 v3 v4 : Nat} {v5 : Int32} {s : PH} (e : f_L_case32 h v0 v1 v2 v3 v4 v5 = some s) (kk : WP X 9 KB NB 2815 [(0, .ref v0), (1, .ref v1), (2, .ref v2), (3, .ref v3), (4, .ref v4), (5, .int v5)] [] s) : WP X 9 k n 1900 [(0, .ref v0), (1, .ref v1), (2, .ref v2), (3, .ref v3), (4, .ref v4), (5, .int v5)] [] h := by
  unfold f_L_case32 at e
  refine z_aload_n E 1 dL_law_1900 rfl ?_
  obtain ⟨_, e1, e⟩ := ob e
  obtain ⟨p2, e3, e⟩ := ob e
  refine z_kR2 (st := []) (av := [.ref v1]) E k n (z_rV (st := []) (av := []) E Y_X9_bestLanding k_L_267 (ci := 11) rfl (c_X9_bestLanding (z_El E) e3) dL_law_1901 e1 rfl rfl (by decide) (by decide) (Nat.le_trans (zk (k := k) (a := 0) hk (by decide)) hKB) (Nat.le_trans (zk (k := n) (a := 0) hn (by decide)) hNB) (Nat.zero_le _)) rfl rfl rfl ?_
  refine z_aload_n E 2 dL_law_1904 rfl ?_
  obtain ⟨_, e4, e⟩ := ob e
  obtain ⟨p5, e6, e⟩ := ob e
  refine z_kR2 (st := [.int p2.1]) (av := [.ref v2]) E k n (z_rV (st := [.int p2.1]) (av := []) E Y_X10_bestLanding k_L_270 (ci := 12) rfl (c_X10_bestLanding (z_El E) e6) dL_law_1905 e4 rfl rfl (by decide) (by decide) (Nat.le_trans (zk (k := k) (a := 0) hk (by decide)) hKB) (Nat.le_trans (zk (k := n) (a := 0) hn (by decide)) hNB) (Nat.le_of_ble_eq_true rfl)) rfl rfl rfl ?_
  rcases oi e with ⟨c7, e⟩ | ⟨c7, e⟩
  · refine z_icmp_eqT (tgt := 2815) E dL_law_1908 rfl c7 ?_
    obtain rfl := Option.some.inj e
    exact z_sub [0, 1, 2, 3, 4, 5] rfl (z_wide (zk (k := k) (a := 0) hk (by decide)) (zk (k := n) (a := 0) hn (by decide)) kk)
  · refine z_icmp_eqF (tgt := 2815) E dL_law_1908 rfl c7 ?_
    cases e
noncomputable def f_L_case33 (h : PH) (v0 : Nat) (v1 : Nat) (v2 : Nat) (v3 : Nat) (v4 : Nat) (v5 : Int32) : Option PH :=
  (gd h v1 11).bind fun _ =>
  (f_X9_bestLandingBySets h v1).bind fun p2 =>
  (gd p2.2 v2 12).bind fun _ =>
  (f_X10_bestLandingBySets p2.2 v2).bind fun p5 =>
  if p2.1 = p5.1 then
    some p5.2
  else
    none
theorem b_L_case33 {X : PX} (E : z_E X cL_law RL "law" 9 room_1 (some .boolean)) {k n KB NB : Nat} (hk : k + 0 ≤ KB) (hn : n + 0 ≤ NB) (hKB : KB ≤ room_1.cells) (hNB : NB ≤ room_1.slots) {h : PH} {v0 v1 v2 v3 v4 : Nat} {v5 : Int32} {s : PH} (e : f_L_case33 h v0 v1 v2 v3 v4 v5 = some s) (kk : WP X 9 KB NB 2815 [(0, .ref v0), (1, .ref v1), (2, .ref v2), (3, .ref v3), (4, .ref v4), (5, .int v5)] [] s) : WP X 9 k n 1913 [(0, .ref v0), (1, .ref v1), (2, .ref v2), (3, .ref v3), (4, .ref v4), (5, .int v5)] [] h := by
  unfold f_L_case33 at e
  refine z_aload_n E 1 dL_law_1913 rfl ?_
  obtain ⟨_, e1, e⟩ := ob e
  obtain ⟨p2, e3, e⟩ := ob e
  refine z_kR2 (st := []) (av := [.ref v1]) E k n (z_rV (st := []) (av := []) E Y_X9_bestLandingBySets k_L_271 (ci := 11) rfl (c_X9_bestLandingBySets (z_El E) e3) dL_law_1914 e1 rfl rfl (by decide) (by decide) (Nat.le_trans (zk (k := k) (a := 0) hk (by decide)) hKB) (Nat.le_trans (zk (k := n) (a := 0) hn (by decide)) hNB) (Nat.zero_le _)) rfl rfl rfl ?_
  refine z_aload_n E 2 dL_law_1917 rfl ?_
  obtain ⟨_, e4, e⟩ := ob e
  obtain ⟨p5, e6, e⟩ := ob e
  refine z_kR2 (st := [.int p2.1]) (av := [.ref v2]) E k n (z_rV (st := [.int p2.1]) (av := []) E Y_X10_bestLandingBySets k_L_274 (ci := 12) rfl (c_X10_bestLandingBySets (z_El E) e6) dL_law_1918 e4 rfl rfl (by decide) (by decide) (Nat.le_trans (zk (k := k) (a := 0) hk (by decide)) hKB) (Nat.le_trans (zk (k := n) (a := 0) hn (by decide)) hNB) (Nat.le_of_ble_eq_true rfl)) rfl rfl rfl ?_
  rcases oi e with ⟨c7, e⟩ | ⟨c7, e⟩
  · refine z_icmp_eqT (tgt := 2815) E dL_law_1921 rfl c7 ?_
    obtain rfl := Option.some.inj e
    exact z_sub [0, 1, 2, 3, 4, 5] rfl (z_wide (zk (k := k) (a := 0) hk (by decide)) (zk (k := n) (a := 0) hn (by decide)) kk)
  · refine z_icmp_eqF (tgt := 2815) E dL_law_1921 rfl c7 ?_
    cases e
noncomputable def f_L_case34 (h : PH) (v0 : Nat) (v1 : Nat) (v2 : Nat) (v3 : Nat) (v4 : Nat) (v5 : Int32) : Option PH :=
  (alI .int h v0 (v5 + (1 : Int32))).bind fun x1 =>
  (f_L_wouldLand h v1 x1 v3).bind fun p3 =>
  (alI .int p3.2 v0 (v5 + (1 : Int32))).bind fun x5 =>
  (gd p3.2 v2 12).bind fun _ =>
  (f_X10_wouldLand p3.2 v2 x5).bind fun p8 =>
  (gd p8.2 v2 12).bind fun _ =>
  (f_X10_thrown p8.2 v2).bind fun p11 =>
  if p11 = p3.1 then
    if ¬ p3.1 = 0 then
      some p8.2
    else
      (alL p8.2 v3 (0 : Int32)).bind fun x15 =>
      if p8.1 = false then
        if (lg_cmp x15 (0 : Int64)) = 0 then
          some p8.2
        else
          none
      else
        if (lg_cmp x15 (1 : Int64)) = 0 then
          some p8.2
        else
          none
  else
    none
theorem b_L_case34 {X : PX} (E : z_E X cL_law RL "law" 9 room_1 (some .boolean)) {k n KB NB : Nat} (hk : k + 1 ≤ KB) (hn : n + 6 ≤ NB) (hKB : KB ≤ room_1.cells) (hNB : NB ≤ room_1.slots) {h : PH} {v0 v1 v2 v3 v4 : Nat} {v5 : Int32} {s : PH} (e : f_L_case34 h v0 v1 v2 v3 v4 v5 = some s) (kk : WP X 9 KB NB 2815 [(0, .ref v0), (1, .ref v1), (2, .ref v2), (3, .ref v3), (4, .ref v4), (5, .int v5)] [] s) : WP X 9 k n 1926 [(0, .ref v0), (1, .ref v1), (2, .ref v2), (3, .ref v3), (4, .ref v4), (5, .int v5)] [] h := by
  unfold f_L_case34 at e
  refine z_aload_n E 1 dL_law_1926 rfl ?_
  refine z_aload_n E 0 dL_law_1927 rfl ?_
  refine z_iload E 5 dL_law_1928 rfl ?_
  refine z_iconst E dL_law_1930 ic_1 ?_
  refine z_iadd E dL_law_1931 ?_
  obtain ⟨x1, e2, e⟩ := ob e
  refine z_iald E dL_law_1932 e2 ?_
  refine z_aload_n E 3 dL_law_1933 rfl ?_
  obtain ⟨p3, e4, e⟩ := ob e
  refine z_kR2 (st := []) (av := [.ref v1, .int x1, .ref v3]) E (k + 1) (n + 6) (z_rSX (st := []) (av := [.ref v1, .int x1, .ref v3]) E Y_L_wouldLand k_L_275 (c_L_wouldLand (z_El E) e4) dL_law_1934 rfl rfl (by decide) (by decide) (Nat.le_trans (zk (k := k) (a := 1) hk (by decide)) hKB) (Nat.le_trans (zk (k := n) (a := 6) hn (by decide)) hNB) (Nat.zero_le _)) rfl rfl rfl ?_
  refine z_istore (lv2 := [(6, .int p3.1), (0, .ref v0), (1, .ref v1), (2, .ref v2), (3, .ref v3), (4, .ref v4), (5, .int v5)]) E dL_law_1937 (by decide) rfl ?_
  refine z_aload_n E 3 dL_law_1939 rfl ?_
  refine z_aload_n E 1 dL_law_1940 rfl ?_
  refine z_iload E 6 dL_law_1941 rfl ?_
  refine z_iconst E dL_law_1943 ic_1 ?_
  refine z_iadd E dL_law_1944 ?_
  obtain ⟨x5, e6, e⟩ := ob e
  refine z_iald E dL_law_1945 e6 ?_
  obtain ⟨_, e7, e⟩ := ob e
  obtain ⟨p8, e9, e⟩ := ob e
  refine z_kR2 (st := []) (av := [.ref v2, .int x5]) E (k + 1) (n + 6) (z_rV (st := []) (av := [.int x5]) E Y_X10_wouldLand k_L_277 (ci := 12) rfl (c_X10_wouldLand (z_El E) e9) dL_law_1946 e7 rfl rfl (by decide) (by decide) (Nat.le_trans (zk (k := k) (a := 1) hk (by decide)) hKB) (Nat.le_trans (zk (k := n) (a := 6) hn (by decide)) hNB) (Nat.zero_le _)) rfl rfl rfl ?_
  refine z_istore (lv2 := [(7, .int (zb p8.1)), (6, .int p3.1), (0, .ref v0), (1, .ref v1), (2, .ref v2), (3, .ref v3), (4, .ref v4), (5, .int v5)]) E dL_law_1949 (by decide) rfl ?_
  refine z_aload_n E 4 dL_law_1951 rfl ?_
  obtain ⟨_, e10, e⟩ := ob e
  obtain ⟨p11, e12, e⟩ := ob e
  refine z_kR2 (st := []) (av := [.ref v2]) E (k + 1) (n + 6) (z_rV (st := []) (av := []) E Y_X10_thrown k_L_161 (ci := 12) rfl (c_X10_thrown (z_El E) e12) dL_law_1952 e10 rfl rfl (by decide) (by decide) (Nat.le_trans (zk (k := k) (a := 1) hk (by decide)) hKB) (Nat.le_trans (zk (k := n) (a := 6) hn (by decide)) hNB) (Nat.zero_le _)) rfl rfl rfl ?_
  refine z_iload E 1 dL_law_1955 rfl ?_
  rcases oi e with ⟨c13, e⟩ | ⟨c13, e⟩
  · refine z_icmp_eqT (tgt := 1962) E dL_law_1957 rfl c13 ?_
    refine z_iload E 1 dL_law_1962 rfl ?_
    rcases oi e with ⟨c14, e⟩ | ⟨c14, e⟩
    · refine z_if_neT (tgt := 1986) E dL_law_1964 rfl c14 ?_
      refine z_goto (tgt := 2815) E dL_law_1986 rfl ?_
      obtain rfl := Option.some.inj e
      exact z_sub [2, 3, 4, 5, 6, 7] rfl (z_wide (zk (k := k) (a := 1) hk (by decide)) (zk (k := n) (a := 6) hn (by decide)) kk)
    · refine z_if_neF (tgt := 1986) E dL_law_1964 rfl (Classical.not_not.mp c14) ?_
      refine z_aload_n E 5 dL_law_1967 rfl ?_
      refine z_iconst E dL_law_1968 ic_0 ?_
      obtain ⟨x15, e16, e⟩ := ob e
      refine z_lald E dL_law_1969 e16 ?_
      refine z_iload E 0 dL_law_1970 rfl ?_
      rcases oi e with ⟨c17, e⟩ | ⟨c17, e⟩
      · refine z_if_eqT (tgt := 1979) E dL_law_1972 rfl (zb_f c17) ?_
        refine z_lconst (v := (0 : Int64)) E dL_law_1979 rfl ?_
        refine z_lcmp E dL_law_1980 ?_
        rcases oi e with ⟨c18, e⟩ | ⟨c18, e⟩
        · refine z_if_eqT (tgt := 1986) E dL_law_1981 rfl c18 ?_
          refine z_goto (tgt := 2815) E dL_law_1986 rfl ?_
          obtain rfl := Option.some.inj e
          exact z_sub [2, 3, 4, 5, 6, 7] rfl (z_wide (zk (k := k) (a := 1) hk (by decide)) (zk (k := n) (a := 6) hn (by decide)) kk)
        · refine z_if_eqF (tgt := 1986) E dL_law_1981 rfl c18 ?_
          cases e
      · refine z_if_eqF (tgt := 1979) E dL_law_1972 rfl (zb_nf c17) ?_
        refine z_lconst (v := (1 : Int64)) E dL_law_1975 rfl ?_
        refine z_goto (tgt := 1980) E dL_law_1976 rfl ?_
        refine z_lcmp E dL_law_1980 ?_
        rcases oi e with ⟨c19, e⟩ | ⟨c19, e⟩
        · refine z_if_eqT (tgt := 1986) E dL_law_1981 rfl c19 ?_
          refine z_goto (tgt := 2815) E dL_law_1986 rfl ?_
          obtain rfl := Option.some.inj e
          exact z_sub [2, 3, 4, 5, 6, 7] rfl (z_wide (zk (k := k) (a := 1) hk (by decide)) (zk (k := n) (a := 6) hn (by decide)) kk)
        · refine z_if_eqF (tgt := 1986) E dL_law_1981 rfl c19 ?_
          cases e
  · refine z_icmp_eqF (tgt := 1962) E dL_law_1957 rfl c13 ?_
    cases e
noncomputable def f_L_case35 (h : PH) (v0 : Nat) (v1 : Nat) (v2 : Nat) (v3 : Nat) (v4 : Nat) (v5 : Int32) : Option PH :=
  (f_L_buyLicence h v1 v3).bind fun p1 =>
  (gd p1.2 v2 12).bind fun _ =>
  (f_X10_buyLicence p1.2 v2).bind fun p4 =>
  (gd p4.2 v2 12).bind fun _ =>
  (f_X10_thrown p4.2 v2).bind fun p7 =>
  if p7 = p1.1 then
    if ¬ p1.1 = 0 then
      some p4.2
    else
      (alL p4.2 v3 (0 : Int32)).bind fun x11 =>
      if (lg_cmp x11 p4.1.toInt64) = 0 then
        some p4.2
      else
        none
  else
    none
theorem b_L_case35 {X : PX} (E : z_E X cL_law RL "law" 9 room_1 (some .boolean)) {k n KB NB : Nat} (hk : k + 12 ≤ KB) (hn : n + 117 ≤ NB) (hKB : KB ≤ room_1.cells) (hNB : NB ≤ room_1.slots) {h : PH} {v0 v1 v2 v3 v4 : Nat} {v5 : Int32} {s : PH} (e : f_L_case35 h v0 v1 v2 v3 v4 v5 = some s) (kk : WP X 9 KB NB 2815 [(0, .ref v0), (1, .ref v1), (2, .ref v2), (3, .ref v3), (4, .ref v4), (5, .int v5)] [] s) : WP X 9 k n 1989 [(0, .ref v0), (1, .ref v1), (2, .ref v2), (3, .ref v3), (4, .ref v4), (5, .int v5)] [] h := by
  unfold f_L_case35 at e
  refine z_aload_n E 1 dL_law_1989 rfl ?_
  refine z_aload_n E 3 dL_law_1990 rfl ?_
  obtain ⟨p1, e2, e⟩ := ob e
  refine z_kR2 (st := []) (av := [.ref v1, .ref v3]) E (k + 12) (n + 117) (z_rSX (st := []) (av := [.ref v1, .ref v3]) E Y_L_buyLicence k_L_278 (c_L_buyLicence (z_El E) e2) dL_law_1991 rfl rfl (by decide) (by decide) (Nat.le_trans (zk (k := k) (a := 12) hk (by decide)) hKB) (Nat.le_trans (zk (k := n) (a := 117) hn (by decide)) hNB) (Nat.zero_le _)) rfl rfl rfl ?_
  refine z_istore (lv2 := [(6, .int p1.1), (0, .ref v0), (1, .ref v1), (2, .ref v2), (3, .ref v3), (4, .ref v4), (5, .int v5)]) E dL_law_1994 (by decide) rfl ?_
  refine z_aload_n E 3 dL_law_1996 rfl ?_
  obtain ⟨_, e3, e⟩ := ob e
  obtain ⟨p4, e5, e⟩ := ob e
  refine z_kR2 (st := []) (av := [.ref v2]) E (k + 12) (n + 117) (z_rV (st := []) (av := []) E Y_X10_buyLicence k_L_280 (ci := 12) rfl (c_X10_buyLicence (z_El E) e5) dL_law_1997 e3 rfl rfl (by decide) (by decide) (Nat.le_trans (zk (k := k) (a := 12) hk (by decide)) hKB) (Nat.le_trans (zk (k := n) (a := 117) hn (by decide)) hNB) (Nat.zero_le _)) rfl rfl rfl ?_
  refine z_istore (lv2 := [(7, .int p4.1), (6, .int p1.1), (0, .ref v0), (1, .ref v1), (2, .ref v2), (3, .ref v3), (4, .ref v4), (5, .int v5)]) E dL_law_2000 (by decide) rfl ?_
  refine z_aload_n E 4 dL_law_2002 rfl ?_
  obtain ⟨_, e6, e⟩ := ob e
  obtain ⟨p7, e8, e⟩ := ob e
  refine z_kR2 (st := []) (av := [.ref v2]) E (k + 12) (n + 117) (z_rV (st := []) (av := []) E Y_X10_thrown k_L_161 (ci := 12) rfl (c_X10_thrown (z_El E) e8) dL_law_2003 e6 rfl rfl (by decide) (by decide) (Nat.le_trans (zk (k := k) (a := 12) hk (by decide)) hKB) (Nat.le_trans (zk (k := n) (a := 117) hn (by decide)) hNB) (Nat.zero_le _)) rfl rfl rfl ?_
  refine z_iload E 1 dL_law_2006 rfl ?_
  rcases oi e with ⟨c9, e⟩ | ⟨c9, e⟩
  · refine z_icmp_eqT (tgt := 2013) E dL_law_2008 rfl c9 ?_
    refine z_iload E 1 dL_law_2013 rfl ?_
    rcases oi e with ⟨c10, e⟩ | ⟨c10, e⟩
    · refine z_if_neT (tgt := 2030) E dL_law_2015 rfl c10 ?_
      refine z_goto (tgt := 2815) E dL_law_2030 rfl ?_
      obtain rfl := Option.some.inj e
      exact z_sub [2, 3, 4, 5, 6, 7] rfl (z_wide (zk (k := k) (a := 12) hk (by decide)) (zk (k := n) (a := 117) hn (by decide)) kk)
    · refine z_if_neF (tgt := 2030) E dL_law_2015 rfl (Classical.not_not.mp c10) ?_
      refine z_aload_n E 5 dL_law_2018 rfl ?_
      refine z_iconst E dL_law_2019 ic_0 ?_
      obtain ⟨x11, e12, e⟩ := ob e
      refine z_lald E dL_law_2020 e12 ?_
      refine z_iload E 0 dL_law_2021 rfl ?_
      refine z_i2l (v := p4.1.toInt64) E dL_law_2023 rfl ?_
      refine z_lcmp E dL_law_2024 ?_
      rcases oi e with ⟨c13, e⟩ | ⟨c13, e⟩
      · refine z_if_eqT (tgt := 2030) E dL_law_2025 rfl c13 ?_
        refine z_goto (tgt := 2815) E dL_law_2030 rfl ?_
        obtain rfl := Option.some.inj e
        exact z_sub [2, 3, 4, 5, 6, 7] rfl (z_wide (zk (k := k) (a := 12) hk (by decide)) (zk (k := n) (a := 117) hn (by decide)) kk)
      · refine z_if_eqF (tgt := 2030) E dL_law_2025 rfl c13 ?_
        cases e
  · refine z_icmp_eqF (tgt := 2013) E dL_law_2008 rfl c9 ?_
    cases e
noncomputable def f_L_case36 (h : PH) (v0 : Nat) (v1 : Nat) (v2 : Nat) (v3 : Nat) (v4 : Nat) (v5 : Int32) : Option PH :=
  (alI .int h v0 (v5 + (1 : Int32))).bind fun x1 =>
  (f_L_pass h v1 x1 v3).bind fun p3 =>
  (alI .int p3.2 v0 (v5 + (1 : Int32))).bind fun x5 =>
  (gd p3.2 v2 12).bind fun _ =>
  (f_X10_pass p3.2 v2 x5).bind fun p8 =>
  (gd p8.2 v2 12).bind fun _ =>
  (f_X10_thrown p8.2 v2).bind fun p11 =>
  if p11 = p3.1 then
    if ¬ p3.1 = 0 then
      some p8.2
    else
      (alL p8.2 v3 (0 : Int32)).bind fun x15 =>
      if (lg_cmp x15 p8.1.toInt64) = 0 then
        some p8.2
      else
        none
  else
    none
theorem b_L_case36 {X : PX} (E : z_E X cL_law RL "law" 9 room_1 (some .boolean)) {k n KB NB : Nat} (hk : k + 12 ≤ KB) (hn : n + 117 ≤ NB) (hKB : KB ≤ room_1.cells) (hNB : NB ≤ room_1.slots) {h : PH} {v0 v1 v2 v3 v4 : Nat} {v5 : Int32} {s : PH} (e : f_L_case36 h v0 v1 v2 v3 v4 v5 = some s) (kk : WP X 9 KB NB 2815 [(0, .ref v0), (1, .ref v1), (2, .ref v2), (3, .ref v3), (4, .ref v4), (5, .int v5)] [] s) : WP X 9 k n 2033 [(0, .ref v0), (1, .ref v1), (2, .ref v2), (3, .ref v3), (4, .ref v4), (5, .int v5)] [] h := by
  unfold f_L_case36 at e
  refine z_aload_n E 1 dL_law_2033 rfl ?_
  refine z_aload_n E 0 dL_law_2034 rfl ?_
  refine z_iload E 5 dL_law_2035 rfl ?_
  refine z_iconst E dL_law_2037 ic_1 ?_
  refine z_iadd E dL_law_2038 ?_
  obtain ⟨x1, e2, e⟩ := ob e
  refine z_iald E dL_law_2039 e2 ?_
  refine z_aload_n E 3 dL_law_2040 rfl ?_
  obtain ⟨p3, e4, e⟩ := ob e
  refine z_kR2 (st := []) (av := [.ref v1, .int x1, .ref v3]) E (k + 12) (n + 117) (z_rSX (st := []) (av := [.ref v1, .int x1, .ref v3]) E Y_L_pass k_L_281 (c_L_pass (z_El E) e4) dL_law_2041 rfl rfl (by decide) (by decide) (Nat.le_trans (zk (k := k) (a := 12) hk (by decide)) hKB) (Nat.le_trans (zk (k := n) (a := 117) hn (by decide)) hNB) (Nat.zero_le _)) rfl rfl rfl ?_
  refine z_istore (lv2 := [(6, .int p3.1), (0, .ref v0), (1, .ref v1), (2, .ref v2), (3, .ref v3), (4, .ref v4), (5, .int v5)]) E dL_law_2044 (by decide) rfl ?_
  refine z_aload_n E 3 dL_law_2046 rfl ?_
  refine z_aload_n E 1 dL_law_2047 rfl ?_
  refine z_iload E 6 dL_law_2048 rfl ?_
  refine z_iconst E dL_law_2050 ic_1 ?_
  refine z_iadd E dL_law_2051 ?_
  obtain ⟨x5, e6, e⟩ := ob e
  refine z_iald E dL_law_2052 e6 ?_
  obtain ⟨_, e7, e⟩ := ob e
  obtain ⟨p8, e9, e⟩ := ob e
  refine z_kR2 (st := []) (av := [.ref v2, .int x5]) E (k + 12) (n + 117) (z_rV (st := []) (av := [.int x5]) E Y_X10_pass k_L_283 (ci := 12) rfl (c_X10_pass (z_El E) e9) dL_law_2053 e7 rfl rfl (by decide) (by decide) (Nat.le_trans (zk (k := k) (a := 12) hk (by decide)) hKB) (Nat.le_trans (zk (k := n) (a := 117) hn (by decide)) hNB) (Nat.zero_le _)) rfl rfl rfl ?_
  refine z_istore (lv2 := [(7, .int p8.1), (6, .int p3.1), (0, .ref v0), (1, .ref v1), (2, .ref v2), (3, .ref v3), (4, .ref v4), (5, .int v5)]) E dL_law_2056 (by decide) rfl ?_
  refine z_aload_n E 4 dL_law_2058 rfl ?_
  obtain ⟨_, e10, e⟩ := ob e
  obtain ⟨p11, e12, e⟩ := ob e
  refine z_kR2 (st := []) (av := [.ref v2]) E (k + 12) (n + 117) (z_rV (st := []) (av := []) E Y_X10_thrown k_L_161 (ci := 12) rfl (c_X10_thrown (z_El E) e12) dL_law_2059 e10 rfl rfl (by decide) (by decide) (Nat.le_trans (zk (k := k) (a := 12) hk (by decide)) hKB) (Nat.le_trans (zk (k := n) (a := 117) hn (by decide)) hNB) (Nat.zero_le _)) rfl rfl rfl ?_
  refine z_iload E 1 dL_law_2062 rfl ?_
  rcases oi e with ⟨c13, e⟩ | ⟨c13, e⟩
  · refine z_icmp_eqT (tgt := 2069) E dL_law_2064 rfl c13 ?_
    refine z_iload E 1 dL_law_2069 rfl ?_
    rcases oi e with ⟨c14, e⟩ | ⟨c14, e⟩
    · refine z_if_neT (tgt := 2086) E dL_law_2071 rfl c14 ?_
      refine z_goto (tgt := 2815) E dL_law_2086 rfl ?_
      obtain rfl := Option.some.inj e
      exact z_sub [2, 3, 4, 5, 6, 7] rfl (z_wide (zk (k := k) (a := 12) hk (by decide)) (zk (k := n) (a := 117) hn (by decide)) kk)
    · refine z_if_neF (tgt := 2086) E dL_law_2071 rfl (Classical.not_not.mp c14) ?_
      refine z_aload_n E 5 dL_law_2074 rfl ?_
      refine z_iconst E dL_law_2075 ic_0 ?_
      obtain ⟨x15, e16, e⟩ := ob e
      refine z_lald E dL_law_2076 e16 ?_
      refine z_iload E 0 dL_law_2077 rfl ?_
      refine z_i2l (v := p8.1.toInt64) E dL_law_2079 rfl ?_
      refine z_lcmp E dL_law_2080 ?_
      rcases oi e with ⟨c17, e⟩ | ⟨c17, e⟩
      · refine z_if_eqT (tgt := 2086) E dL_law_2081 rfl c17 ?_
        refine z_goto (tgt := 2815) E dL_law_2086 rfl ?_
        obtain rfl := Option.some.inj e
        exact z_sub [2, 3, 4, 5, 6, 7] rfl (z_wide (zk (k := k) (a := 12) hk (by decide)) (zk (k := n) (a := 117) hn (by decide)) kk)
      · refine z_if_eqF (tgt := 2086) E dL_law_2081 rfl c17 ?_
        cases e
  · refine z_icmp_eqF (tgt := 2069) E dL_law_2064 rfl c13 ?_
    cases e
noncomputable def f_L_case37 (h : PH) (v0 : Nat) (v1 : Nat) (v2 : Nat) (v3 : Nat) (v4 : Nat) (v5 : Int32) : Option PH :=
  (gd h v1 11).bind fun _ =>
  (f_X9_hasLicence h v1).bind fun p2 =>
  (gd h v2 12).bind fun _ =>
  (f_X10_hasLicence h v2).bind fun p5 =>
  if (zb p2) = (zb p5.1) then
    some p5.2
  else
    none
theorem b_L_case37 {X : PX} (E : z_E X cL_law RL "law" 9 room_1 (some .boolean)) {k n KB NB : Nat} (hk : k + 0 ≤ KB) (hn : n + 0 ≤ NB) (hKB : KB ≤ room_1.cells) (hNB : NB ≤ room_1.slots) {h : PH} {v0 v1 v2 v3 v4 : Nat} {v5 : Int32} {s : PH} (e : f_L_case37 h v0 v1 v2 v3 v4 v5 = some s) (kk : WP X 9 KB NB 2815 [(0, .ref v0), (1, .ref v1), (2, .ref v2), (3, .ref v3), (4, .ref v4), (5, .int v5)] [] s) : WP X 9 k n 2089 [(0, .ref v0), (1, .ref v1), (2, .ref v2), (3, .ref v3), (4, .ref v4), (5, .int v5)] [] h := by
  unfold f_L_case37 at e
  refine z_aload_n E 1 dL_law_2089 rfl ?_
  obtain ⟨_, e1, e⟩ := ob e
  obtain ⟨p2, e3, e⟩ := ob e
  refine z_kR2 (st := []) (av := [.ref v1]) E k n (z_rV (st := []) (av := []) E Y_X9_hasLicence k_L_284 (ci := 11) rfl (c_X9_hasLicence (z_El E) e3) dL_law_2090 e1 rfl rfl (by decide) (by decide) (Nat.le_trans (zk (k := k) (a := 0) hk (by decide)) hKB) (Nat.le_trans (zk (k := n) (a := 0) hn (by decide)) hNB) (Nat.zero_le _)) rfl rfl rfl ?_
  refine z_aload_n E 2 dL_law_2093 rfl ?_
  obtain ⟨_, e4, e⟩ := ob e
  obtain ⟨p5, e6, e⟩ := ob e
  refine z_kR2 (st := [.int (zb p2)]) (av := [.ref v2]) E k n (z_rV (st := [.int (zb p2)]) (av := []) E Y_X10_hasLicence k_L_288 (ci := 12) rfl (c_X10_hasLicence (z_El E) e6) dL_law_2094 e4 rfl rfl (by decide) (by decide) (Nat.le_trans (zk (k := k) (a := 0) hk (by decide)) hKB) (Nat.le_trans (zk (k := n) (a := 0) hn (by decide)) hNB) (Nat.le_of_ble_eq_true rfl)) rfl rfl rfl ?_
  rcases oi e with ⟨c7, e⟩ | ⟨c7, e⟩
  · refine z_icmp_eqT (tgt := 2815) E dL_law_2097 rfl c7 ?_
    obtain rfl := Option.some.inj e
    exact z_sub [0, 1, 2, 3, 4, 5] rfl (z_wide (zk (k := k) (a := 0) hk (by decide)) (zk (k := n) (a := 0) hn (by decide)) kk)
  · refine z_icmp_eqF (tgt := 2815) E dL_law_2097 rfl c7 ?_
    cases e
noncomputable def f_L_case38 (h : PH) (v0 : Nat) (v1 : Nat) (v2 : Nat) (v3 : Nat) (v4 : Nat) (v5 : Int32) : Option PH :=
  (gd h v1 11).bind fun _ =>
  (f_X9_day h v1).bind fun p2 =>
  (gd h v2 12).bind fun _ =>
  (f_X10_day h v2).bind fun p5 =>
  if p2 = p5.1 then
    some p5.2
  else
    none
theorem b_L_case38 {X : PX} (E : z_E X cL_law RL "law" 9 room_1 (some .boolean)) {k n KB NB : Nat} (hk : k + 0 ≤ KB) (hn : n + 0 ≤ NB) (hKB : KB ≤ room_1.cells) (hNB : NB ≤ room_1.slots) {h : PH} {v0 v1 v2 v3 v4 : Nat} {v5 : Int32} {s : PH} (e : f_L_case38 h v0 v1 v2 v3 v4 v5 = some s) (kk : WP X 9 KB NB 2815 [(0, .ref v0), (1, .ref v1), (2, .ref v2), (3, .ref v3), (4, .ref v4), (5, .int v5)] [] s) : WP X 9 k n 2102 [(0, .ref v0), (1, .ref v1), (2, .ref v2), (3, .ref v3), (4, .ref v4), (5, .int v5)] [] h := by
  unfold f_L_case38 at e
  refine z_aload_n E 1 dL_law_2102 rfl ?_
  obtain ⟨_, e1, e⟩ := ob e
  obtain ⟨p2, e3, e⟩ := ob e
  refine z_kR2 (st := []) (av := [.ref v1]) E k n (z_rV (st := []) (av := []) E Y_X9_day k_L_289 (ci := 11) rfl (c_X9_day (z_El E) e3) dL_law_2103 e1 rfl rfl (by decide) (by decide) (Nat.le_trans (zk (k := k) (a := 0) hk (by decide)) hKB) (Nat.le_trans (zk (k := n) (a := 0) hn (by decide)) hNB) (Nat.zero_le _)) rfl rfl rfl ?_
  refine z_aload_n E 2 dL_law_2106 rfl ?_
  obtain ⟨_, e4, e⟩ := ob e
  obtain ⟨p5, e6, e⟩ := ob e
  refine z_kR2 (st := [.int p2]) (av := [.ref v2]) E k n (z_rV (st := [.int p2]) (av := []) E Y_X10_day k_L_292 (ci := 12) rfl (c_X10_day (z_El E) e6) dL_law_2107 e4 rfl rfl (by decide) (by decide) (Nat.le_trans (zk (k := k) (a := 0) hk (by decide)) hKB) (Nat.le_trans (zk (k := n) (a := 0) hn (by decide)) hNB) (Nat.le_of_ble_eq_true rfl)) rfl rfl rfl ?_
  rcases oi e with ⟨c7, e⟩ | ⟨c7, e⟩
  · refine z_icmp_eqT (tgt := 2815) E dL_law_2110 rfl c7 ?_
    obtain rfl := Option.some.inj e
    exact z_sub [0, 1, 2, 3, 4, 5] rfl (z_wide (zk (k := k) (a := 0) hk (by decide)) (zk (k := n) (a := 0) hn (by decide)) kk)
  · refine z_icmp_eqF (tgt := 2815) E dL_law_2110 rfl c7 ?_
    cases e
noncomputable def f_L_case39 (h : PH) (v0 : Nat) (v1 : Nat) (v2 : Nat) (v3 : Nat) (v4 : Nat) (v5 : Int32) : Option PH :=
  (gd h v1 11).bind fun _ =>
  (f_X9_season h v1).bind fun p2 =>
  (gd h v2 12).bind fun _ =>
  (f_X10_season h v2).bind fun p5 =>
  if p2 = p5.1 then
    some p5.2
  else
    none
theorem b_L_case39 {X : PX} (E : z_E X cL_law RL "law" 9 room_1 (some .boolean)) {k n KB NB : Nat} (hk : k + 0 ≤ KB) (hn : n + 0 ≤ NB) (hKB : KB ≤ room_1.cells) (hNB : NB ≤ room_1.slots) {h : PH} {v0 v1 v2 v3 v4 : Nat} {v5 : Int32} {s : PH} (e : f_L_case39 h v0 v1 v2 v3 v4 v5 = some s) (kk : WP X 9 KB NB 2815 [(0, .ref v0), (1, .ref v1), (2, .ref v2), (3, .ref v3), (4, .ref v4), (5, .int v5)] [] s) : WP X 9 k n 2115 [(0, .ref v0), (1, .ref v1), (2, .ref v2), (3, .ref v3), (4, .ref v4), (5, .int v5)] [] h := by
  unfold f_L_case39 at e
  refine z_aload_n E 1 dL_law_2115 rfl ?_
  obtain ⟨_, e1, e⟩ := ob e
  obtain ⟨p2, e3, e⟩ := ob e
  refine z_kR2 (st := []) (av := [.ref v1]) E k n (z_rV (st := []) (av := []) E Y_X9_season k_L_293 (ci := 11) rfl (c_X9_season (z_El E) e3) dL_law_2116 e1 rfl rfl (by decide) (by decide) (Nat.le_trans (zk (k := k) (a := 0) hk (by decide)) hKB) (Nat.le_trans (zk (k := n) (a := 0) hn (by decide)) hNB) (Nat.zero_le _)) rfl rfl rfl ?_
  refine z_aload_n E 2 dL_law_2119 rfl ?_
  obtain ⟨_, e4, e⟩ := ob e
  obtain ⟨p5, e6, e⟩ := ob e
  refine z_kR2 (st := [.int p2]) (av := [.ref v2]) E k n (z_rV (st := [.int p2]) (av := []) E Y_X10_season k_L_296 (ci := 12) rfl (c_X10_season (z_El E) e6) dL_law_2120 e4 rfl rfl (by decide) (by decide) (Nat.le_trans (zk (k := k) (a := 0) hk (by decide)) hKB) (Nat.le_trans (zk (k := n) (a := 0) hn (by decide)) hNB) (Nat.le_of_ble_eq_true rfl)) rfl rfl rfl ?_
  rcases oi e with ⟨c7, e⟩ | ⟨c7, e⟩
  · refine z_icmp_eqT (tgt := 2815) E dL_law_2123 rfl c7 ?_
    obtain rfl := Option.some.inj e
    exact z_sub [0, 1, 2, 3, 4, 5] rfl (z_wide (zk (k := k) (a := 0) hk (by decide)) (zk (k := n) (a := 0) hn (by decide)) kk)
  · refine z_icmp_eqF (tgt := 2815) E dL_law_2123 rfl c7 ?_
    cases e
noncomputable def f_L_case40 (h : PH) (v0 : Nat) (v1 : Nat) (v2 : Nat) (v3 : Nat) (v4 : Nat) (v5 : Int32) : Option PH :=
  (gd h v1 11).bind fun _ =>
  (f_X9_coins h v1).bind fun p2 =>
  (gd h v2 12).bind fun _ =>
  (f_X10_coins h v2).bind fun p5 =>
  if p2 = p5.1 then
    some p5.2
  else
    none
theorem b_L_case40 {X : PX} (E : z_E X cL_law RL "law" 9 room_1 (some .boolean)) {k n KB NB : Nat} (hk : k + 0 ≤ KB) (hn : n + 0 ≤ NB) (hKB : KB ≤ room_1.cells) (hNB : NB ≤ room_1.slots) {h : PH} {v0 v1 v2 v3 v4 : Nat} {v5 : Int32} {s : PH} (e : f_L_case40 h v0 v1 v2 v3 v4 v5 = some s) (kk : WP X 9 KB NB 2815 [(0, .ref v0), (1, .ref v1), (2, .ref v2), (3, .ref v3), (4, .ref v4), (5, .int v5)] [] s) : WP X 9 k n 2128 [(0, .ref v0), (1, .ref v1), (2, .ref v2), (3, .ref v3), (4, .ref v4), (5, .int v5)] [] h := by
  unfold f_L_case40 at e
  refine z_aload_n E 1 dL_law_2128 rfl ?_
  obtain ⟨_, e1, e⟩ := ob e
  obtain ⟨p2, e3, e⟩ := ob e
  refine z_kR2 (st := []) (av := [.ref v1]) E k n (z_rV (st := []) (av := []) E Y_X9_coins k_L_297 (ci := 11) rfl (c_X9_coins (z_El E) e3) dL_law_2129 e1 rfl rfl (by decide) (by decide) (Nat.le_trans (zk (k := k) (a := 0) hk (by decide)) hKB) (Nat.le_trans (zk (k := n) (a := 0) hn (by decide)) hNB) (Nat.zero_le _)) rfl rfl rfl ?_
  refine z_aload_n E 2 dL_law_2132 rfl ?_
  obtain ⟨_, e4, e⟩ := ob e
  obtain ⟨p5, e6, e⟩ := ob e
  refine z_kR2 (st := [.int p2]) (av := [.ref v2]) E k n (z_rV (st := [.int p2]) (av := []) E Y_X10_coins k_L_300 (ci := 12) rfl (c_X10_coins (z_El E) e6) dL_law_2133 e4 rfl rfl (by decide) (by decide) (Nat.le_trans (zk (k := k) (a := 0) hk (by decide)) hKB) (Nat.le_trans (zk (k := n) (a := 0) hn (by decide)) hNB) (Nat.le_of_ble_eq_true rfl)) rfl rfl rfl ?_
  rcases oi e with ⟨c7, e⟩ | ⟨c7, e⟩
  · refine z_icmp_eqT (tgt := 2815) E dL_law_2136 rfl c7 ?_
    obtain rfl := Option.some.inj e
    exact z_sub [0, 1, 2, 3, 4, 5] rfl (z_wide (zk (k := k) (a := 0) hk (by decide)) (zk (k := n) (a := 0) hn (by decide)) kk)
  · refine z_icmp_eqF (tgt := 2815) E dL_law_2136 rfl c7 ?_
    cases e
noncomputable def f_L_case41 (h : PH) (v0 : Nat) (v1 : Nat) (v2 : Nat) (v3 : Nat) (v4 : Nat) (v5 : Int32) : Option PH :=
  (gd h v1 11).bind fun _ =>
  (f_X9_caught h v1).bind fun p2 =>
  (gd h v2 12).bind fun _ =>
  (f_X10_caught h v2).bind fun p5 =>
  if p2 = p5.1 then
    some p5.2
  else
    none
theorem b_L_case41 {X : PX} (E : z_E X cL_law RL "law" 9 room_1 (some .boolean)) {k n KB NB : Nat} (hk : k + 0 ≤ KB) (hn : n + 0 ≤ NB) (hKB : KB ≤ room_1.cells) (hNB : NB ≤ room_1.slots) {h : PH} {v0 v1 v2 v3 v4 : Nat} {v5 : Int32} {s : PH} (e : f_L_case41 h v0 v1 v2 v3 v4 v5 = some s) (kk : WP X 9 KB NB 2815 [(0, .ref v0), (1, .ref v1), (2, .ref v2), (3, .ref v3), (4, .ref v4), (5, .int v5)] [] s) : WP X 9 k n 2141 [(0, .ref v0), (1, .ref v1), (2, .ref v2), (3, .ref v3), (4, .ref v4), (5, .int v5)] [] h := by
  unfold f_L_case41 at e
  refine z_aload_n E 1 dL_law_2141 rfl ?_
  obtain ⟨_, e1, e⟩ := ob e
  obtain ⟨p2, e3, e⟩ := ob e
  refine z_kR2 (st := []) (av := [.ref v1]) E k n (z_rV (st := []) (av := []) E Y_X9_caught k_L_301 (ci := 11) rfl (c_X9_caught (z_El E) e3) dL_law_2142 e1 rfl rfl (by decide) (by decide) (Nat.le_trans (zk (k := k) (a := 0) hk (by decide)) hKB) (Nat.le_trans (zk (k := n) (a := 0) hn (by decide)) hNB) (Nat.zero_le _)) rfl rfl rfl ?_
  refine z_aload_n E 2 dL_law_2145 rfl ?_
  obtain ⟨_, e4, e⟩ := ob e
  obtain ⟨p5, e6, e⟩ := ob e
  refine z_kR2 (st := [.int p2]) (av := [.ref v2]) E k n (z_rV (st := [.int p2]) (av := []) E Y_X10_caught k_L_304 (ci := 12) rfl (c_X10_caught (z_El E) e6) dL_law_2146 e4 rfl rfl (by decide) (by decide) (Nat.le_trans (zk (k := k) (a := 0) hk (by decide)) hKB) (Nat.le_trans (zk (k := n) (a := 0) hn (by decide)) hNB) (Nat.le_of_ble_eq_true rfl)) rfl rfl rfl ?_
  rcases oi e with ⟨c7, e⟩ | ⟨c7, e⟩
  · refine z_icmp_eqT (tgt := 2815) E dL_law_2149 rfl c7 ?_
    obtain rfl := Option.some.inj e
    exact z_sub [0, 1, 2, 3, 4, 5] rfl (z_wide (zk (k := k) (a := 0) hk (by decide)) (zk (k := n) (a := 0) hn (by decide)) kk)
  · refine z_icmp_eqF (tgt := 2815) E dL_law_2149 rfl c7 ?_
    cases e
noncomputable def f_L_case42 (h : PH) (v0 : Nat) (v1 : Nat) (v2 : Nat) (v3 : Nat) (v4 : Nat) (v5 : Int32) : Option PH :=
  (gd h v1 11).bind fun _ =>
  (f_X9_landed h v1).bind fun p2 =>
  (gd h v2 12).bind fun _ =>
  (f_X10_landed h v2).bind fun p5 =>
  if p2 = p5.1 then
    some p5.2
  else
    none
theorem b_L_case42 {X : PX} (E : z_E X cL_law RL "law" 9 room_1 (some .boolean)) {k n KB NB : Nat} (hk : k + 0 ≤ KB) (hn : n + 0 ≤ NB) (hKB : KB ≤ room_1.cells) (hNB : NB ≤ room_1.slots) {h : PH} {v0 v1 v2 v3 v4 : Nat} {v5 : Int32} {s : PH} (e : f_L_case42 h v0 v1 v2 v3 v4 v5 = some s) (kk : WP X 9 KB NB 2815 [(0, .ref v0), (1, .ref v1), (2, .ref v2), (3, .ref v3), (4, .ref v4), (5, .int v5)] [] s) : WP X 9 k n 2154 [(0, .ref v0), (1, .ref v1), (2, .ref v2), (3, .ref v3), (4, .ref v4), (5, .int v5)] [] h := by
  unfold f_L_case42 at e
  refine z_aload_n E 1 dL_law_2154 rfl ?_
  obtain ⟨_, e1, e⟩ := ob e
  obtain ⟨p2, e3, e⟩ := ob e
  refine z_kR2 (st := []) (av := [.ref v1]) E k n (z_rV (st := []) (av := []) E Y_X9_landed k_L_305 (ci := 11) rfl (c_X9_landed (z_El E) e3) dL_law_2155 e1 rfl rfl (by decide) (by decide) (Nat.le_trans (zk (k := k) (a := 0) hk (by decide)) hKB) (Nat.le_trans (zk (k := n) (a := 0) hn (by decide)) hNB) (Nat.zero_le _)) rfl rfl rfl ?_
  refine z_aload_n E 2 dL_law_2158 rfl ?_
  obtain ⟨_, e4, e⟩ := ob e
  obtain ⟨p5, e6, e⟩ := ob e
  refine z_kR2 (st := [.int p2]) (av := [.ref v2]) E k n (z_rV (st := [.int p2]) (av := []) E Y_X10_landed k_L_308 (ci := 12) rfl (c_X10_landed (z_El E) e6) dL_law_2159 e4 rfl rfl (by decide) (by decide) (Nat.le_trans (zk (k := k) (a := 0) hk (by decide)) hKB) (Nat.le_trans (zk (k := n) (a := 0) hn (by decide)) hNB) (Nat.le_of_ble_eq_true rfl)) rfl rfl rfl ?_
  rcases oi e with ⟨c7, e⟩ | ⟨c7, e⟩
  · refine z_icmp_eqT (tgt := 2815) E dL_law_2162 rfl c7 ?_
    obtain rfl := Option.some.inj e
    exact z_sub [0, 1, 2, 3, 4, 5] rfl (z_wide (zk (k := k) (a := 0) hk (by decide)) (zk (k := n) (a := 0) hn (by decide)) kk)
  · refine z_icmp_eqF (tgt := 2815) E dL_law_2162 rfl c7 ?_
    cases e
noncomputable def f_L_case43 (h : PH) (v0 : Nat) (v1 : Nat) (v2 : Nat) (v3 : Nat) (v4 : Nat) (v5 : Int32) : Option PH :=
  (gd h v1 11).bind fun _ =>
  (f_X9_returned h v1).bind fun p2 =>
  (gd h v2 12).bind fun _ =>
  (f_X10_returned h v2).bind fun p5 =>
  if p2 = p5.1 then
    some p5.2
  else
    none
theorem b_L_case43 {X : PX} (E : z_E X cL_law RL "law" 9 room_1 (some .boolean)) {k n KB NB : Nat} (hk : k + 0 ≤ KB) (hn : n + 0 ≤ NB) (hKB : KB ≤ room_1.cells) (hNB : NB ≤ room_1.slots) {h : PH} {v0 v1 v2 v3 v4 : Nat} {v5 : Int32} {s : PH} (e : f_L_case43 h v0 v1 v2 v3 v4 v5 = some s) (kk : WP X 9 KB NB 2815 [(0, .ref v0), (1, .ref v1), (2, .ref v2), (3, .ref v3), (4, .ref v4), (5, .int v5)] [] s) : WP X 9 k n 2167 [(0, .ref v0), (1, .ref v1), (2, .ref v2), (3, .ref v3), (4, .ref v4), (5, .int v5)] [] h := by
  unfold f_L_case43 at e
  refine z_aload_n E 1 dL_law_2167 rfl ?_
  obtain ⟨_, e1, e⟩ := ob e
  obtain ⟨p2, e3, e⟩ := ob e
  refine z_kR2 (st := []) (av := [.ref v1]) E k n (z_rV (st := []) (av := []) E Y_X9_returned k_L_309 (ci := 11) rfl (c_X9_returned (z_El E) e3) dL_law_2168 e1 rfl rfl (by decide) (by decide) (Nat.le_trans (zk (k := k) (a := 0) hk (by decide)) hKB) (Nat.le_trans (zk (k := n) (a := 0) hn (by decide)) hNB) (Nat.zero_le _)) rfl rfl rfl ?_
  refine z_aload_n E 2 dL_law_2171 rfl ?_
  obtain ⟨_, e4, e⟩ := ob e
  obtain ⟨p5, e6, e⟩ := ob e
  refine z_kR2 (st := [.int p2]) (av := [.ref v2]) E k n (z_rV (st := [.int p2]) (av := []) E Y_X10_returned k_L_312 (ci := 12) rfl (c_X10_returned (z_El E) e6) dL_law_2172 e4 rfl rfl (by decide) (by decide) (Nat.le_trans (zk (k := k) (a := 0) hk (by decide)) hKB) (Nat.le_trans (zk (k := n) (a := 0) hn (by decide)) hNB) (Nat.le_of_ble_eq_true rfl)) rfl rfl rfl ?_
  rcases oi e with ⟨c7, e⟩ | ⟨c7, e⟩
  · refine z_icmp_eqT (tgt := 2815) E dL_law_2175 rfl c7 ?_
    obtain rfl := Option.some.inj e
    exact z_sub [0, 1, 2, 3, 4, 5] rfl (z_wide (zk (k := k) (a := 0) hk (by decide)) (zk (k := n) (a := 0) hn (by decide)) kk)
  · refine z_icmp_eqF (tgt := 2815) E dL_law_2175 rfl c7 ?_
    cases e
noncomputable def f_L_case44 (h : PH) (v0 : Nat) (v1 : Nat) (v2 : Nat) (v3 : Nat) (v4 : Nat) (v5 : Int32) : Option PH :=
  (f_L_meanWeight h v1 v4).bind fun p1 =>
  (gd p1.2 v2 12).bind fun _ =>
  (f_X10_meanWeight p1.2 v2).bind fun p4 =>
  (gd p4.2 v2 12).bind fun _ =>
  (f_X10_thrown p4.2 v2).bind fun p7 =>
  if p7 = p1.1 then
    if ¬ p1.1 = 0 then
      some p4.2
    else
      (alD p4.2 v4 (0 : Int32)).bind fun x11 =>
      if (Op.cmpValue (FP.dcmp x11 p4.1) .l) = 0 then
        some p4.2
      else
        (alD p4.2 v4 (0 : Int32)).bind fun x14 =>
        (alD p4.2 v4 (0 : Int32)).bind fun x16 =>
        if (Op.cmpValue (FP.dcmp x14 x16) .l) = 0 then
          none
        else
          if ¬ (Op.cmpValue (FP.dcmp p4.1 p4.1) .l) = 0 then
            some p4.2
          else
            none
  else
    none
theorem b_L_case44 {X : PX} (E : z_E X cL_law RL "law" 9 room_1 (some .boolean)) {k n KB NB : Nat} (hk : k + 1 ≤ KB) (hn : n + 6 ≤ NB) (hKB : KB ≤ room_1.cells) (hNB : NB ≤ room_1.slots) {h : PH} {v0 v1 v2 v3 v4 : Nat} {v5 : Int32} {s : PH} (e : f_L_case44 h v0 v1 v2 v3 v4 v5 = some s) (kk : WP X 9 KB NB 2815 [(0, .ref v0), (1, .ref v1), (2, .ref v2), (3, .ref v3), (4, .ref v4), (5, .int v5)] [] s) : WP X 9 k n 2180 [(0, .ref v0), (1, .ref v1), (2, .ref v2), (3, .ref v3), (4, .ref v4), (5, .int v5)] [] h := by
  unfold f_L_case44 at e
  refine z_aload_n E 1 dL_law_2180 rfl ?_
  refine z_aload E 4 dL_law_2181 rfl ?_
  obtain ⟨p1, e2, e⟩ := ob e
  refine z_kR2 (st := []) (av := [.ref v1, .ref v4]) E (k + 1) (n + 6) (z_rSX (st := []) (av := [.ref v1, .ref v4]) E Y_L_meanWeight k_L_313 (c_L_meanWeight (z_El E) e2) dL_law_2183 rfl rfl (by decide) (by decide) (Nat.le_trans (zk (k := k) (a := 1) hk (by decide)) hKB) (Nat.le_trans (zk (k := n) (a := 6) hn (by decide)) hNB) (Nat.zero_le _)) rfl rfl rfl ?_
  refine z_istore (lv2 := [(6, .int p1.1), (0, .ref v0), (1, .ref v1), (2, .ref v2), (3, .ref v3), (4, .ref v4), (5, .int v5)]) E dL_law_2186 (by decide) rfl ?_
  refine z_aload_n E 3 dL_law_2188 rfl ?_
  obtain ⟨_, e3, e⟩ := ob e
  obtain ⟨p4, e5, e⟩ := ob e
  refine z_kR2 (st := []) (av := [.ref v2]) E (k + 1) (n + 6) (z_rV (st := []) (av := []) E Y_X10_meanWeight k_L_316 (ci := 12) rfl (c_X10_meanWeight (z_El E) e5) dL_law_2189 e3 rfl rfl (by decide) (by decide) (Nat.le_trans (zk (k := k) (a := 1) hk (by decide)) hKB) (Nat.le_trans (zk (k := n) (a := 6) hn (by decide)) hNB) (Nat.zero_le _)) rfl rfl rfl ?_
  refine z_dstore (lv2 := [(7, .double p4.1), (6, .int p1.1), (0, .ref v0), (1, .ref v1), (2, .ref v2), (3, .ref v3), (4, .ref v4), (5, .int v5)]) E dL_law_2192 (by decide) rfl ?_
  refine z_aload_n E 4 dL_law_2194 rfl ?_
  obtain ⟨_, e6, e⟩ := ob e
  obtain ⟨p7, e8, e⟩ := ob e
  refine z_kR2 (st := []) (av := [.ref v2]) E (k + 1) (n + 6) (z_rV (st := []) (av := []) E Y_X10_thrown k_L_161 (ci := 12) rfl (c_X10_thrown (z_El E) e8) dL_law_2195 e6 rfl rfl (by decide) (by decide) (Nat.le_trans (zk (k := k) (a := 1) hk (by decide)) hKB) (Nat.le_trans (zk (k := n) (a := 6) hn (by decide)) hNB) (Nat.zero_le _)) rfl rfl rfl ?_
  refine z_iload E 1 dL_law_2198 rfl ?_
  rcases oi e with ⟨c9, e⟩ | ⟨c9, e⟩
  · refine z_icmp_eqT (tgt := 2205) E dL_law_2200 rfl c9 ?_
    refine z_iload E 1 dL_law_2205 rfl ?_
    rcases oi e with ⟨c10, e⟩ | ⟨c10, e⟩
    · refine z_if_neT (tgt := 2242) E dL_law_2207 rfl c10 ?_
      refine z_goto (tgt := 2815) E dL_law_2242 rfl ?_
      obtain rfl := Option.some.inj e
      exact z_sub [2, 3, 4, 5, 6, 7] rfl (z_wide (zk (k := k) (a := 1) hk (by decide)) (zk (k := n) (a := 6) hn (by decide)) kk)
    · refine z_if_neF (tgt := 2242) E dL_law_2207 rfl (Classical.not_not.mp c10) ?_
      refine z_aload E 6 dL_law_2210 rfl ?_
      refine z_iconst E dL_law_2212 ic_0 ?_
      obtain ⟨x11, e12, e⟩ := ob e
      refine z_dald E dL_law_2213 e12 ?_
      refine z_dload E 0 dL_law_2214 rfl ?_
      refine z_dcmp E dL_law_2216 ?_
      rcases oi e with ⟨c13, e⟩ | ⟨c13, e⟩
      · refine z_if_eqT (tgt := 2242) E dL_law_2217 rfl c13 ?_
        refine z_goto (tgt := 2815) E dL_law_2242 rfl ?_
        obtain rfl := Option.some.inj e
        exact z_sub [2, 3, 4, 5, 6, 7] rfl (z_wide (zk (k := k) (a := 1) hk (by decide)) (zk (k := n) (a := 6) hn (by decide)) kk)
      · refine z_if_eqF (tgt := 2242) E dL_law_2217 rfl c13 ?_
        refine z_aload E 6 dL_law_2220 rfl ?_
        refine z_iconst E dL_law_2222 ic_0 ?_
        obtain ⟨x14, e15, e⟩ := ob e
        refine z_dald E dL_law_2223 e15 ?_
        refine z_aload E 6 dL_law_2224 rfl ?_
        refine z_iconst E dL_law_2226 ic_0 ?_
        obtain ⟨x16, e17, e⟩ := ob e
        refine z_dald E dL_law_2227 e17 ?_
        refine z_dcmp E dL_law_2228 ?_
        rcases oi e with ⟨c18, e⟩ | ⟨c18, e⟩
        · refine z_if_eqT (tgt := 2240) E dL_law_2229 rfl c18 ?_
          cases e
        · refine z_if_eqF (tgt := 2240) E dL_law_2229 rfl c18 ?_
          refine z_dload E 0 dL_law_2232 rfl ?_
          refine z_dload E 0 dL_law_2234 rfl ?_
          refine z_dcmp E dL_law_2236 ?_
          rcases oi e with ⟨c19, e⟩ | ⟨c19, e⟩
          · refine z_if_neT (tgt := 2242) E dL_law_2237 rfl c19 ?_
            refine z_goto (tgt := 2815) E dL_law_2242 rfl ?_
            obtain rfl := Option.some.inj e
            exact z_sub [2, 3, 4, 5, 6, 7] rfl (z_wide (zk (k := k) (a := 1) hk (by decide)) (zk (k := n) (a := 6) hn (by decide)) kk)
          · refine z_if_neF (tgt := 2242) E dL_law_2237 rfl (Classical.not_not.mp c19) ?_
            cases e
  · refine z_icmp_eqF (tgt := 2205) E dL_law_2200 rfl c9 ?_
    cases e
noncomputable def f_L_case45 (h : PH) (v0 : Nat) (v1 : Nat) (v2 : Nat) (v3 : Nat) (v4 : Nat) (v5 : Int32) : Option PH :=
  (f_L_landedShare h v1 v4).bind fun p1 =>
  (gd p1.2 v2 12).bind fun _ =>
  (f_X10_landedShare p1.2 v2).bind fun p4 =>
  (gd p4.2 v2 12).bind fun _ =>
  (f_X10_thrown p4.2 v2).bind fun p7 =>
  if p7 = p1.1 then
    if ¬ p1.1 = 0 then
      some p4.2
    else
      (alD p4.2 v4 (0 : Int32)).bind fun x11 =>
      (n64 (FP.f2d p4.1)).bind fun x13 =>
      if (Op.cmpValue (FP.dcmp x11 x13) .l) = 0 then
        some p4.2
      else
        (alD p4.2 v4 (0 : Int32)).bind fun x16 =>
        (alD p4.2 v4 (0 : Int32)).bind fun x18 =>
        if (Op.cmpValue (FP.dcmp x16 x18) .l) = 0 then
          none
        else
          if ¬ (Op.cmpValue (FP.fcmp p4.1 p4.1) .l) = 0 then
            some p4.2
          else
            none
  else
    none
theorem b_L_case45 {X : PX} (E : z_E X cL_law RL "law" 9 room_1 (some .boolean)) {k n KB NB : Nat} (hk : k + 1 ≤ KB) (hn : n + 6 ≤ NB) (hKB : KB ≤ room_1.cells) (hNB : NB ≤ room_1.slots) {h : PH} {v0 v1 v2 v3 v4 : Nat} {v5 : Int32} {s : PH} (e : f_L_case45 h v0 v1 v2 v3 v4 v5 = some s) (kk : WP X 9 KB NB 2815 [(0, .ref v0), (1, .ref v1), (2, .ref v2), (3, .ref v3), (4, .ref v4), (5, .int v5)] [] s) : WP X 9 k n 2245 [(0, .ref v0), (1, .ref v1), (2, .ref v2), (3, .ref v3), (4, .ref v4), (5, .int v5)] [] h := by
  unfold f_L_case45 at e
  refine z_aload_n E 1 dL_law_2245 rfl ?_
  refine z_aload E 4 dL_law_2246 rfl ?_
  obtain ⟨p1, e2, e⟩ := ob e
  refine z_kR2 (st := []) (av := [.ref v1, .ref v4]) E (k + 1) (n + 6) (z_rSX (st := []) (av := [.ref v1, .ref v4]) E Y_L_landedShare k_L_317 (c_L_landedShare (z_El E) e2) dL_law_2248 rfl rfl (by decide) (by decide) (Nat.le_trans (zk (k := k) (a := 1) hk (by decide)) hKB) (Nat.le_trans (zk (k := n) (a := 6) hn (by decide)) hNB) (Nat.zero_le _)) rfl rfl rfl ?_
  refine z_istore (lv2 := [(6, .int p1.1), (0, .ref v0), (1, .ref v1), (2, .ref v2), (3, .ref v3), (4, .ref v4), (5, .int v5)]) E dL_law_2251 (by decide) rfl ?_
  refine z_aload_n E 3 dL_law_2253 rfl ?_
  obtain ⟨_, e3, e⟩ := ob e
  obtain ⟨p4, e5, e⟩ := ob e
  refine z_kR2 (st := []) (av := [.ref v2]) E (k + 1) (n + 6) (z_rV (st := []) (av := []) E Y_X10_landedShare k_L_319 (ci := 12) rfl (c_X10_landedShare (z_El E) e5) dL_law_2254 e3 rfl rfl (by decide) (by decide) (Nat.le_trans (zk (k := k) (a := 1) hk (by decide)) hKB) (Nat.le_trans (zk (k := n) (a := 6) hn (by decide)) hNB) (Nat.zero_le _)) rfl rfl rfl ?_
  refine z_fstore (lv2 := [(7, .float p4.1), (6, .int p1.1), (0, .ref v0), (1, .ref v1), (2, .ref v2), (3, .ref v3), (4, .ref v4), (5, .int v5)]) E dL_law_2257 (by decide) rfl ?_
  refine z_aload_n E 4 dL_law_2259 rfl ?_
  obtain ⟨_, e6, e⟩ := ob e
  obtain ⟨p7, e8, e⟩ := ob e
  refine z_kR2 (st := []) (av := [.ref v2]) E (k + 1) (n + 6) (z_rV (st := []) (av := []) E Y_X10_thrown k_L_161 (ci := 12) rfl (c_X10_thrown (z_El E) e8) dL_law_2260 e6 rfl rfl (by decide) (by decide) (Nat.le_trans (zk (k := k) (a := 1) hk (by decide)) hKB) (Nat.le_trans (zk (k := n) (a := 6) hn (by decide)) hNB) (Nat.zero_le _)) rfl rfl rfl ?_
  refine z_iload E 1 dL_law_2263 rfl ?_
  rcases oi e with ⟨c9, e⟩ | ⟨c9, e⟩
  · refine z_icmp_eqT (tgt := 2270) E dL_law_2265 rfl c9 ?_
    refine z_iload E 1 dL_law_2270 rfl ?_
    rcases oi e with ⟨c10, e⟩ | ⟨c10, e⟩
    · refine z_if_neT (tgt := 2308) E dL_law_2272 rfl c10 ?_
      refine z_goto (tgt := 2815) E dL_law_2308 rfl ?_
      obtain rfl := Option.some.inj e
      exact z_sub [2, 3, 4, 5, 6, 7] rfl (z_wide (zk (k := k) (a := 1) hk (by decide)) (zk (k := n) (a := 6) hn (by decide)) kk)
    · refine z_if_neF (tgt := 2308) E dL_law_2272 rfl (Classical.not_not.mp c10) ?_
      refine z_aload E 6 dL_law_2275 rfl ?_
      refine z_iconst E dL_law_2277 ic_0 ?_
      obtain ⟨x11, e12, e⟩ := ob e
      refine z_dald E dL_law_2278 e12 ?_
      refine z_fload E 0 dL_law_2279 rfl ?_
      obtain ⟨x13, e14, e⟩ := ob e
      obtain ⟨rfl, e14n⟩ := z_n64 e14
      refine z_f2d E dL_law_2281 e14n ?_
      refine z_dcmp E dL_law_2282 ?_
      rcases oi e with ⟨c15, e⟩ | ⟨c15, e⟩
      · refine z_if_eqT (tgt := 2308) E dL_law_2283 rfl c15 ?_
        refine z_goto (tgt := 2815) E dL_law_2308 rfl ?_
        obtain rfl := Option.some.inj e
        exact z_sub [2, 3, 4, 5, 6, 7] rfl (z_wide (zk (k := k) (a := 1) hk (by decide)) (zk (k := n) (a := 6) hn (by decide)) kk)
      · refine z_if_eqF (tgt := 2308) E dL_law_2283 rfl c15 ?_
        refine z_aload E 6 dL_law_2286 rfl ?_
        refine z_iconst E dL_law_2288 ic_0 ?_
        obtain ⟨x16, e17, e⟩ := ob e
        refine z_dald E dL_law_2289 e17 ?_
        refine z_aload E 6 dL_law_2290 rfl ?_
        refine z_iconst E dL_law_2292 ic_0 ?_
        obtain ⟨x18, e19, e⟩ := ob e
        refine z_dald E dL_law_2293 e19 ?_
        refine z_dcmp E dL_law_2294 ?_
        rcases oi e with ⟨c20, e⟩ | ⟨c20, e⟩
        · refine z_if_eqT (tgt := 2306) E dL_law_2295 rfl c20 ?_
          cases e
        · refine z_if_eqF (tgt := 2306) E dL_law_2295 rfl c20 ?_
          refine z_fload E 0 dL_law_2298 rfl ?_
          refine z_fload E 0 dL_law_2300 rfl ?_
          refine z_fcmp E dL_law_2302 ?_
          rcases oi e with ⟨c21, e⟩ | ⟨c21, e⟩
          · refine z_if_neT (tgt := 2308) E dL_law_2303 rfl c21 ?_
            refine z_goto (tgt := 2815) E dL_law_2308 rfl ?_
            obtain rfl := Option.some.inj e
            exact z_sub [2, 3, 4, 5, 6, 7] rfl (z_wide (zk (k := k) (a := 1) hk (by decide)) (zk (k := n) (a := 6) hn (by decide)) kk)
          · refine z_if_neF (tgt := 2308) E dL_law_2303 rfl (Classical.not_not.mp c21) ?_
            cases e
  · refine z_icmp_eqF (tgt := 2270) E dL_law_2265 rfl c9 ?_
    cases e
noncomputable def f_L_case46 (h : PH) (v0 : Nat) (v1 : Nat) (v2 : Nat) (v3 : Nat) (v4 : Nat) (v5 : Int32) : Option PH :=
  (alI .int h v0 (v5 + (1 : Int32))).bind fun x1 =>
  (f_L_feed h v1 (zi2c x1) v3).bind fun p3 =>
  (alI .int p3.2 v0 (v5 + (1 : Int32))).bind fun x5 =>
  (gd p3.2 v2 12).bind fun _ =>
  (f_X10_feed p3.2 v2 (zi2c x5)).bind fun p8 =>
  (gd p8.2 v2 12).bind fun _ =>
  (f_X10_thrown p8.2 v2).bind fun p11 =>
  if p11 = p3.1 then
    if ¬ p3.1 = 0 then
      some p8.2
    else
      (alL p8.2 v3 (0 : Int32)).bind fun x15 =>
      if (lg_cmp x15 p8.1.toInt64) = 0 then
        some p8.2
      else
        none
  else
    none
theorem b_L_case46 {X : PX} (E : z_E X cL_law RL "law" 9 room_1 (some .boolean)) {k n KB NB : Nat} (hk : k + 1 ≤ KB) (hn : n + 6 ≤ NB) (hKB : KB ≤ room_1.cells) (hNB : NB ≤ room_1.slots) {h : PH} {v0 v1 v2 v3 v4 : Nat} {v5 : Int32} {s : PH} (e : f_L_case46 h v0 v1 v2 v3 v4 v5 = some s) (kk : WP X 9 KB NB 2815 [(0, .ref v0), (1, .ref v1), (2, .ref v2), (3, .ref v3), (4, .ref v4), (5, .int v5)] [] s) : WP X 9 k n 2311 [(0, .ref v0), (1, .ref v1), (2, .ref v2), (3, .ref v3), (4, .ref v4), (5, .int v5)] [] h := by
  unfold f_L_case46 at e
  refine z_aload_n E 1 dL_law_2311 rfl ?_
  refine z_aload_n E 0 dL_law_2312 rfl ?_
  refine z_iload E 5 dL_law_2313 rfl ?_
  refine z_iconst E dL_law_2315 ic_1 ?_
  refine z_iadd E dL_law_2316 ?_
  obtain ⟨x1, e2, e⟩ := ob e
  refine z_iald E dL_law_2317 e2 ?_
  refine z_i2c (v := (zi2c x1)) E dL_law_2318 rfl ?_
  refine z_aload_n E 3 dL_law_2319 rfl ?_
  obtain ⟨p3, e4, e⟩ := ob e
  refine z_kR2 (st := []) (av := [.ref v1, .int (zi2c x1), .ref v3]) E (k + 1) (n + 6) (z_rSX (st := []) (av := [.ref v1, .int (zi2c x1), .ref v3]) E Y_L_feed k_L_320 (c_L_feed (z_El E) e4) dL_law_2320 rfl rfl (by decide) (by decide) (Nat.le_trans (zk (k := k) (a := 1) hk (by decide)) hKB) (Nat.le_trans (zk (k := n) (a := 6) hn (by decide)) hNB) (Nat.zero_le _)) rfl rfl rfl ?_
  refine z_istore (lv2 := [(6, .int p3.1), (0, .ref v0), (1, .ref v1), (2, .ref v2), (3, .ref v3), (4, .ref v4), (5, .int v5)]) E dL_law_2323 (by decide) rfl ?_
  refine z_aload_n E 3 dL_law_2325 rfl ?_
  refine z_aload_n E 1 dL_law_2326 rfl ?_
  refine z_iload E 6 dL_law_2327 rfl ?_
  refine z_iconst E dL_law_2329 ic_1 ?_
  refine z_iadd E dL_law_2330 ?_
  obtain ⟨x5, e6, e⟩ := ob e
  refine z_iald E dL_law_2331 e6 ?_
  refine z_i2c (v := (zi2c x5)) E dL_law_2332 rfl ?_
  obtain ⟨_, e7, e⟩ := ob e
  obtain ⟨p8, e9, e⟩ := ob e
  refine z_kR2 (st := []) (av := [.ref v2, .int (zi2c x5)]) E (k + 1) (n + 6) (z_rV (st := []) (av := [.int (zi2c x5)]) E Y_X10_feed k_L_323 (ci := 12) rfl (c_X10_feed (z_El E) e9) dL_law_2333 e7 rfl rfl (by decide) (by decide) (Nat.le_trans (zk (k := k) (a := 1) hk (by decide)) hKB) (Nat.le_trans (zk (k := n) (a := 6) hn (by decide)) hNB) (Nat.zero_le _)) rfl rfl rfl ?_
  refine z_istore (lv2 := [(7, .int p8.1), (6, .int p3.1), (0, .ref v0), (1, .ref v1), (2, .ref v2), (3, .ref v3), (4, .ref v4), (5, .int v5)]) E dL_law_2336 (by decide) rfl ?_
  refine z_aload_n E 4 dL_law_2338 rfl ?_
  obtain ⟨_, e10, e⟩ := ob e
  obtain ⟨p11, e12, e⟩ := ob e
  refine z_kR2 (st := []) (av := [.ref v2]) E (k + 1) (n + 6) (z_rV (st := []) (av := []) E Y_X10_thrown k_L_161 (ci := 12) rfl (c_X10_thrown (z_El E) e12) dL_law_2339 e10 rfl rfl (by decide) (by decide) (Nat.le_trans (zk (k := k) (a := 1) hk (by decide)) hKB) (Nat.le_trans (zk (k := n) (a := 6) hn (by decide)) hNB) (Nat.zero_le _)) rfl rfl rfl ?_
  refine z_iload E 1 dL_law_2342 rfl ?_
  rcases oi e with ⟨c13, e⟩ | ⟨c13, e⟩
  · refine z_icmp_eqT (tgt := 2349) E dL_law_2344 rfl c13 ?_
    refine z_iload E 1 dL_law_2349 rfl ?_
    rcases oi e with ⟨c14, e⟩ | ⟨c14, e⟩
    · refine z_if_neT (tgt := 2366) E dL_law_2351 rfl c14 ?_
      refine z_goto (tgt := 2815) E dL_law_2366 rfl ?_
      obtain rfl := Option.some.inj e
      exact z_sub [2, 3, 4, 5, 6, 7] rfl (z_wide (zk (k := k) (a := 1) hk (by decide)) (zk (k := n) (a := 6) hn (by decide)) kk)
    · refine z_if_neF (tgt := 2366) E dL_law_2351 rfl (Classical.not_not.mp c14) ?_
      refine z_aload_n E 5 dL_law_2354 rfl ?_
      refine z_iconst E dL_law_2355 ic_0 ?_
      obtain ⟨x15, e16, e⟩ := ob e
      refine z_lald E dL_law_2356 e16 ?_
      refine z_iload E 0 dL_law_2357 rfl ?_
      refine z_i2l (v := p8.1.toInt64) E dL_law_2359 rfl ?_
      refine z_lcmp E dL_law_2360 ?_
      rcases oi e with ⟨c17, e⟩ | ⟨c17, e⟩
      · refine z_if_eqT (tgt := 2366) E dL_law_2361 rfl c17 ?_
        refine z_goto (tgt := 2815) E dL_law_2366 rfl ?_
        obtain rfl := Option.some.inj e
        exact z_sub [2, 3, 4, 5, 6, 7] rfl (z_wide (zk (k := k) (a := 1) hk (by decide)) (zk (k := n) (a := 6) hn (by decide)) kk)
      · refine z_if_eqF (tgt := 2366) E dL_law_2361 rfl c17 ?_
        cases e
  · refine z_icmp_eqF (tgt := 2349) E dL_law_2344 rfl c13 ?_
    cases e
noncomputable def f_L_case47 (h : PH) (v0 : Nat) (v1 : Nat) (v2 : Nat) (v3 : Nat) (v4 : Nat) (v5 : Int32) : Option PH :=
  (f_L_execute h v1 v3).bind fun p1 =>
  (gd p1.2 v2 12).bind fun _ =>
  (f_X10_execute p1.2 v2).bind fun p4 =>
  (gd p4.2 v2 12).bind fun _ =>
  (f_X10_thrown p4.2 v2).bind fun p7 =>
  if p7 = p1.1 then
    if ¬ p1.1 = 0 then
      some p4.2
    else
      (alL p4.2 v3 (0 : Int32)).bind fun x11 =>
      if (lg_cmp x11 p4.1.toInt64) = 0 then
        some p4.2
      else
        none
  else
    none
theorem b_L_case47 {X : PX} (E : z_E X cL_law RL "law" 9 room_1 (some .boolean)) {k n KB NB : Nat} (hk : k + 12 ≤ KB) (hn : n + 117 ≤ NB) (hKB : KB ≤ room_1.cells) (hNB : NB ≤ room_1.slots) {h : PH} {v0 v1 v2 v3 v4 : Nat} {v5 : Int32} {s : PH} (e : f_L_case47 h v0 v1 v2 v3 v4 v5 = some s) (kk : WP X 9 KB NB 2815 [(0, .ref v0), (1, .ref v1), (2, .ref v2), (3, .ref v3), (4, .ref v4), (5, .int v5)] [] s) : WP X 9 k n 2369 [(0, .ref v0), (1, .ref v1), (2, .ref v2), (3, .ref v3), (4, .ref v4), (5, .int v5)] [] h := by
  unfold f_L_case47 at e
  refine z_aload_n E 1 dL_law_2369 rfl ?_
  refine z_aload_n E 3 dL_law_2370 rfl ?_
  obtain ⟨p1, e2, e⟩ := ob e
  refine z_kR2 (st := []) (av := [.ref v1, .ref v3]) E (k + 12) (n + 117) (z_rSX (st := []) (av := [.ref v1, .ref v3]) E Y_L_execute k_L_324 (c_L_execute (z_El E) e2) dL_law_2371 rfl rfl (by decide) (by decide) (Nat.le_trans (zk (k := k) (a := 12) hk (by decide)) hKB) (Nat.le_trans (zk (k := n) (a := 117) hn (by decide)) hNB) (Nat.zero_le _)) rfl rfl rfl ?_
  refine z_istore (lv2 := [(6, .int p1.1), (0, .ref v0), (1, .ref v1), (2, .ref v2), (3, .ref v3), (4, .ref v4), (5, .int v5)]) E dL_law_2374 (by decide) rfl ?_
  refine z_aload_n E 3 dL_law_2376 rfl ?_
  obtain ⟨_, e3, e⟩ := ob e
  obtain ⟨p4, e5, e⟩ := ob e
  refine z_kR2 (st := []) (av := [.ref v2]) E (k + 12) (n + 117) (z_rV (st := []) (av := []) E Y_X10_execute k_L_326 (ci := 12) rfl (c_X10_execute (z_El E) e5) dL_law_2377 e3 rfl rfl (by decide) (by decide) (Nat.le_trans (zk (k := k) (a := 12) hk (by decide)) hKB) (Nat.le_trans (zk (k := n) (a := 117) hn (by decide)) hNB) (Nat.zero_le _)) rfl rfl rfl ?_
  refine z_istore (lv2 := [(7, .int p4.1), (6, .int p1.1), (0, .ref v0), (1, .ref v1), (2, .ref v2), (3, .ref v3), (4, .ref v4), (5, .int v5)]) E dL_law_2380 (by decide) rfl ?_
  refine z_aload_n E 4 dL_law_2382 rfl ?_
  obtain ⟨_, e6, e⟩ := ob e
  obtain ⟨p7, e8, e⟩ := ob e
  refine z_kR2 (st := []) (av := [.ref v2]) E (k + 12) (n + 117) (z_rV (st := []) (av := []) E Y_X10_thrown k_L_161 (ci := 12) rfl (c_X10_thrown (z_El E) e8) dL_law_2383 e6 rfl rfl (by decide) (by decide) (Nat.le_trans (zk (k := k) (a := 12) hk (by decide)) hKB) (Nat.le_trans (zk (k := n) (a := 117) hn (by decide)) hNB) (Nat.zero_le _)) rfl rfl rfl ?_
  refine z_iload E 1 dL_law_2386 rfl ?_
  rcases oi e with ⟨c9, e⟩ | ⟨c9, e⟩
  · refine z_icmp_eqT (tgt := 2393) E dL_law_2388 rfl c9 ?_
    refine z_iload E 1 dL_law_2393 rfl ?_
    rcases oi e with ⟨c10, e⟩ | ⟨c10, e⟩
    · refine z_if_neT (tgt := 2410) E dL_law_2395 rfl c10 ?_
      refine z_goto (tgt := 2815) E dL_law_2410 rfl ?_
      obtain rfl := Option.some.inj e
      exact z_sub [2, 3, 4, 5, 6, 7] rfl (z_wide (zk (k := k) (a := 12) hk (by decide)) (zk (k := n) (a := 117) hn (by decide)) kk)
    · refine z_if_neF (tgt := 2410) E dL_law_2395 rfl (Classical.not_not.mp c10) ?_
      refine z_aload_n E 5 dL_law_2398 rfl ?_
      refine z_iconst E dL_law_2399 ic_0 ?_
      obtain ⟨x11, e12, e⟩ := ob e
      refine z_lald E dL_law_2400 e12 ?_
      refine z_iload E 0 dL_law_2401 rfl ?_
      refine z_i2l (v := p4.1.toInt64) E dL_law_2403 rfl ?_
      refine z_lcmp E dL_law_2404 ?_
      rcases oi e with ⟨c13, e⟩ | ⟨c13, e⟩
      · refine z_if_eqT (tgt := 2410) E dL_law_2405 rfl c13 ?_
        refine z_goto (tgt := 2815) E dL_law_2410 rfl ?_
        obtain rfl := Option.some.inj e
        exact z_sub [2, 3, 4, 5, 6, 7] rfl (z_wide (zk (k := k) (a := 12) hk (by decide)) (zk (k := n) (a := 117) hn (by decide)) kk)
      · refine z_if_eqF (tgt := 2410) E dL_law_2405 rfl c13 ?_
        cases e
  · refine z_icmp_eqF (tgt := 2393) E dL_law_2388 rfl c9 ?_
    cases e
noncomputable def f_L_case48 (h : PH) (v0 : Nat) (v1 : Nat) (v2 : Nat) (v3 : Nat) (v4 : Nat) (v5 : Int32) : Option PH :=
  (f_L_faultPosition h v1 v3).bind fun p1 =>
  (gd p1.2 v2 12).bind fun _ =>
  (f_X10_faultPosition p1.2 v2).bind fun p4 =>
  (gd p4.2 v2 12).bind fun _ =>
  (f_X10_thrown p4.2 v2).bind fun p7 =>
  if p7 = p1.1 then
    if ¬ p1.1 = 0 then
      some p4.2
    else
      (alL p4.2 v3 (0 : Int32)).bind fun x11 =>
      if (lg_cmp x11 p4.1.toInt64) = 0 then
        some p4.2
      else
        none
  else
    none
theorem b_L_case48 {X : PX} (E : z_E X cL_law RL "law" 9 room_1 (some .boolean)) {k n KB NB : Nat} (hk : k + 1 ≤ KB) (hn : n + 6 ≤ NB) (hKB : KB ≤ room_1.cells) (hNB : NB ≤ room_1.slots) {h : PH} {v0 v1 v2 v3 v4 : Nat} {v5 : Int32} {s : PH} (e : f_L_case48 h v0 v1 v2 v3 v4 v5 = some s) (kk : WP X 9 KB NB 2815 [(0, .ref v0), (1, .ref v1), (2, .ref v2), (3, .ref v3), (4, .ref v4), (5, .int v5)] [] s) : WP X 9 k n 2413 [(0, .ref v0), (1, .ref v1), (2, .ref v2), (3, .ref v3), (4, .ref v4), (5, .int v5)] [] h := by
  unfold f_L_case48 at e
  refine z_aload_n E 1 dL_law_2413 rfl ?_
  refine z_aload_n E 3 dL_law_2414 rfl ?_
  obtain ⟨p1, e2, e⟩ := ob e
  refine z_kR2 (st := []) (av := [.ref v1, .ref v3]) E (k + 1) (n + 6) (z_rSX (st := []) (av := [.ref v1, .ref v3]) E Y_L_faultPosition k_L_327 (c_L_faultPosition (z_El E) e2) dL_law_2415 rfl rfl (by decide) (by decide) (Nat.le_trans (zk (k := k) (a := 1) hk (by decide)) hKB) (Nat.le_trans (zk (k := n) (a := 6) hn (by decide)) hNB) (Nat.zero_le _)) rfl rfl rfl ?_
  refine z_istore (lv2 := [(6, .int p1.1), (0, .ref v0), (1, .ref v1), (2, .ref v2), (3, .ref v3), (4, .ref v4), (5, .int v5)]) E dL_law_2418 (by decide) rfl ?_
  refine z_aload_n E 3 dL_law_2420 rfl ?_
  obtain ⟨_, e3, e⟩ := ob e
  obtain ⟨p4, e5, e⟩ := ob e
  refine z_kR2 (st := []) (av := [.ref v2]) E (k + 1) (n + 6) (z_rV (st := []) (av := []) E Y_X10_faultPosition k_L_329 (ci := 12) rfl (c_X10_faultPosition (z_El E) e5) dL_law_2421 e3 rfl rfl (by decide) (by decide) (Nat.le_trans (zk (k := k) (a := 1) hk (by decide)) hKB) (Nat.le_trans (zk (k := n) (a := 6) hn (by decide)) hNB) (Nat.zero_le _)) rfl rfl rfl ?_
  refine z_istore (lv2 := [(7, .int p4.1), (6, .int p1.1), (0, .ref v0), (1, .ref v1), (2, .ref v2), (3, .ref v3), (4, .ref v4), (5, .int v5)]) E dL_law_2424 (by decide) rfl ?_
  refine z_aload_n E 4 dL_law_2426 rfl ?_
  obtain ⟨_, e6, e⟩ := ob e
  obtain ⟨p7, e8, e⟩ := ob e
  refine z_kR2 (st := []) (av := [.ref v2]) E (k + 1) (n + 6) (z_rV (st := []) (av := []) E Y_X10_thrown k_L_161 (ci := 12) rfl (c_X10_thrown (z_El E) e8) dL_law_2427 e6 rfl rfl (by decide) (by decide) (Nat.le_trans (zk (k := k) (a := 1) hk (by decide)) hKB) (Nat.le_trans (zk (k := n) (a := 6) hn (by decide)) hNB) (Nat.zero_le _)) rfl rfl rfl ?_
  refine z_iload E 1 dL_law_2430 rfl ?_
  rcases oi e with ⟨c9, e⟩ | ⟨c9, e⟩
  · refine z_icmp_eqT (tgt := 2437) E dL_law_2432 rfl c9 ?_
    refine z_iload E 1 dL_law_2437 rfl ?_
    rcases oi e with ⟨c10, e⟩ | ⟨c10, e⟩
    · refine z_if_neT (tgt := 2454) E dL_law_2439 rfl c10 ?_
      refine z_goto (tgt := 2815) E dL_law_2454 rfl ?_
      obtain rfl := Option.some.inj e
      exact z_sub [2, 3, 4, 5, 6, 7] rfl (z_wide (zk (k := k) (a := 1) hk (by decide)) (zk (k := n) (a := 6) hn (by decide)) kk)
    · refine z_if_neF (tgt := 2454) E dL_law_2439 rfl (Classical.not_not.mp c10) ?_
      refine z_aload_n E 5 dL_law_2442 rfl ?_
      refine z_iconst E dL_law_2443 ic_0 ?_
      obtain ⟨x11, e12, e⟩ := ob e
      refine z_lald E dL_law_2444 e12 ?_
      refine z_iload E 0 dL_law_2445 rfl ?_
      refine z_i2l (v := p4.1.toInt64) E dL_law_2447 rfl ?_
      refine z_lcmp E dL_law_2448 ?_
      rcases oi e with ⟨c13, e⟩ | ⟨c13, e⟩
      · refine z_if_eqT (tgt := 2454) E dL_law_2449 rfl c13 ?_
        refine z_goto (tgt := 2815) E dL_law_2454 rfl ?_
        obtain rfl := Option.some.inj e
        exact z_sub [2, 3, 4, 5, 6, 7] rfl (z_wide (zk (k := k) (a := 1) hk (by decide)) (zk (k := n) (a := 6) hn (by decide)) kk)
      · refine z_if_eqF (tgt := 2454) E dL_law_2449 rfl c13 ?_
        cases e
  · refine z_icmp_eqF (tgt := 2437) E dL_law_2432 rfl c9 ?_
    cases e
noncomputable def f_L_case49 (h : PH) (v0 : Nat) (v1 : Nat) (v2 : Nat) (v3 : Nat) (v4 : Nat) (v5 : Int32) : Option PH :=
  (alI .int h v0 (v5 + (1 : Int32))).bind fun x1 =>
  (f_L_writeNote h v1 x1 v3).bind fun p3 =>
  (alI .int p3.2 v0 (v5 + (1 : Int32))).bind fun x5 =>
  (gd p3.2 v2 12).bind fun _ =>
  (f_X10_writeNote p3.2 v2 x5).bind fun p8 =>
  (gd p8.2 v2 12).bind fun _ =>
  (f_X10_thrown p8.2 v2).bind fun p11 =>
  if p11 = p3.1 then
    if ¬ p3.1 = 0 then
      some p8.2
    else
      (alL p8.2 v3 (0 : Int32)).bind fun x15 =>
      if (lg_cmp x15 p8.1.toInt64) = 0 then
        some p8.2
      else
        none
  else
    none
theorem b_L_case49 {X : PX} (E : z_E X cL_law RL "law" 9 room_1 (some .boolean)) {k n KB NB : Nat} (hk : k + 32 ≤ KB) (hn : n + 1990 ≤ NB) (hKB : KB ≤ room_1.cells) (hNB : NB ≤ room_1.slots) {h : PH} {v0 v1 v2 v3 v4 : Nat} {v5 : Int32} {s : PH} (e : f_L_case49 h v0 v1 v2 v3 v4 v5 = some s) (kk : WP X 9 KB NB 2815 [(0, .ref v0), (1, .ref v1), (2, .ref v2), (3, .ref v3), (4, .ref v4), (5, .int v5)] [] s) : WP X 9 k n 2457 [(0, .ref v0), (1, .ref v1), (2, .ref v2), (3, .ref v3), (4, .ref v4), (5, .int v5)] [] h := by
  unfold f_L_case49 at e
  refine z_aload_n E 1 dL_law_2457 rfl ?_
  refine z_aload_n E 0 dL_law_2458 rfl ?_
  refine z_iload E 5 dL_law_2459 rfl ?_
  refine z_iconst E dL_law_2461 ic_1 ?_
  refine z_iadd E dL_law_2462 ?_
  obtain ⟨x1, e2, e⟩ := ob e
  refine z_iald E dL_law_2463 e2 ?_
  refine z_aload_n E 3 dL_law_2464 rfl ?_
  obtain ⟨p3, e4, e⟩ := ob e
  refine z_kR2 (st := []) (av := [.ref v1, .int x1, .ref v3]) E (k + 32) (n + 1990) (z_rSX (st := []) (av := [.ref v1, .int x1, .ref v3]) E Y_L_writeNote k_L_330 (c_L_writeNote (z_El E) e4) dL_law_2465 rfl rfl (by decide) (by decide) (Nat.le_trans (zk (k := k) (a := 32) hk (by decide)) hKB) (Nat.le_trans (zk (k := n) (a := 1990) hn (by decide)) hNB) (Nat.zero_le _)) rfl rfl rfl ?_
  refine z_istore (lv2 := [(6, .int p3.1), (0, .ref v0), (1, .ref v1), (2, .ref v2), (3, .ref v3), (4, .ref v4), (5, .int v5)]) E dL_law_2468 (by decide) rfl ?_
  refine z_aload_n E 3 dL_law_2470 rfl ?_
  refine z_aload_n E 1 dL_law_2471 rfl ?_
  refine z_iload E 6 dL_law_2472 rfl ?_
  refine z_iconst E dL_law_2474 ic_1 ?_
  refine z_iadd E dL_law_2475 ?_
  obtain ⟨x5, e6, e⟩ := ob e
  refine z_iald E dL_law_2476 e6 ?_
  obtain ⟨_, e7, e⟩ := ob e
  obtain ⟨p8, e9, e⟩ := ob e
  refine z_kR2 (st := []) (av := [.ref v2, .int x5]) E (k + 32) (n + 1990) (z_rV (st := []) (av := [.int x5]) E Y_X10_writeNote k_L_332 (ci := 12) rfl (c_X10_writeNote (z_El E) e9) dL_law_2477 e7 rfl rfl (by decide) (by decide) (Nat.le_trans (zk (k := k) (a := 32) hk (by decide)) hKB) (Nat.le_trans (zk (k := n) (a := 1990) hn (by decide)) hNB) (Nat.zero_le _)) rfl rfl rfl ?_
  refine z_istore (lv2 := [(7, .int p8.1), (6, .int p3.1), (0, .ref v0), (1, .ref v1), (2, .ref v2), (3, .ref v3), (4, .ref v4), (5, .int v5)]) E dL_law_2480 (by decide) rfl ?_
  refine z_aload_n E 4 dL_law_2482 rfl ?_
  obtain ⟨_, e10, e⟩ := ob e
  obtain ⟨p11, e12, e⟩ := ob e
  refine z_kR2 (st := []) (av := [.ref v2]) E (k + 32) (n + 1990) (z_rV (st := []) (av := []) E Y_X10_thrown k_L_161 (ci := 12) rfl (c_X10_thrown (z_El E) e12) dL_law_2483 e10 rfl rfl (by decide) (by decide) (Nat.le_trans (zk (k := k) (a := 32) hk (by decide)) hKB) (Nat.le_trans (zk (k := n) (a := 1990) hn (by decide)) hNB) (Nat.zero_le _)) rfl rfl rfl ?_
  refine z_iload E 1 dL_law_2486 rfl ?_
  rcases oi e with ⟨c13, e⟩ | ⟨c13, e⟩
  · refine z_icmp_eqT (tgt := 2493) E dL_law_2488 rfl c13 ?_
    refine z_iload E 1 dL_law_2493 rfl ?_
    rcases oi e with ⟨c14, e⟩ | ⟨c14, e⟩
    · refine z_if_neT (tgt := 2510) E dL_law_2495 rfl c14 ?_
      refine z_goto (tgt := 2815) E dL_law_2510 rfl ?_
      obtain rfl := Option.some.inj e
      exact z_sub [2, 3, 4, 5, 6, 7] rfl (z_wide (zk (k := k) (a := 32) hk (by decide)) (zk (k := n) (a := 1990) hn (by decide)) kk)
    · refine z_if_neF (tgt := 2510) E dL_law_2495 rfl (Classical.not_not.mp c14) ?_
      refine z_aload_n E 5 dL_law_2498 rfl ?_
      refine z_iconst E dL_law_2499 ic_0 ?_
      obtain ⟨x15, e16, e⟩ := ob e
      refine z_lald E dL_law_2500 e16 ?_
      refine z_iload E 0 dL_law_2501 rfl ?_
      refine z_i2l (v := p8.1.toInt64) E dL_law_2503 rfl ?_
      refine z_lcmp E dL_law_2504 ?_
      rcases oi e with ⟨c17, e⟩ | ⟨c17, e⟩
      · refine z_if_eqT (tgt := 2510) E dL_law_2505 rfl c17 ?_
        refine z_goto (tgt := 2815) E dL_law_2510 rfl ?_
        obtain rfl := Option.some.inj e
        exact z_sub [2, 3, 4, 5, 6, 7] rfl (z_wide (zk (k := k) (a := 32) hk (by decide)) (zk (k := n) (a := 1990) hn (by decide)) kk)
      · refine z_if_eqF (tgt := 2510) E dL_law_2505 rfl c17 ?_
        cases e
  · refine z_icmp_eqF (tgt := 2493) E dL_law_2488 rfl c13 ?_
    cases e
noncomputable def f_L_case50 (h : PH) (v0 : Nat) (v1 : Nat) (v2 : Nat) (v3 : Nat) (v4 : Nat) (v5 : Int32) : Option PH :=
  (alI .int h v0 (v5 + (1 : Int32))).bind fun x1 =>
  (f_L_lineCharacter h v1 x1 v3).bind fun p3 =>
  (alI .int p3.2 v0 (v5 + (1 : Int32))).bind fun x5 =>
  (gd p3.2 v2 12).bind fun _ =>
  (f_X10_lineCharacter p3.2 v2 x5).bind fun p8 =>
  (gd p8.2 v2 12).bind fun _ =>
  (f_X10_thrown p8.2 v2).bind fun p11 =>
  if p11 = p3.1 then
    if ¬ p3.1 = 0 then
      some p8.2
    else
      (alL p8.2 v3 (0 : Int32)).bind fun x15 =>
      if (lg_cmp x15 p8.1.toInt64) = 0 then
        some p8.2
      else
        none
  else
    none
theorem b_L_case50 {X : PX} (E : z_E X cL_law RL "law" 9 room_1 (some .boolean)) {k n KB NB : Nat} (hk : k + 1 ≤ KB) (hn : n + 6 ≤ NB) (hKB : KB ≤ room_1.cells) (hNB : NB ≤ room_1.slots) {h : PH} {v0 v1 v2 v3 v4 : Nat} {v5 : Int32} {s : PH} (e : f_L_case50 h v0 v1 v2 v3 v4 v5 = some s) (kk : WP X 9 KB NB 2815 [(0, .ref v0), (1, .ref v1), (2, .ref v2), (3, .ref v3), (4, .ref v4), (5, .int v5)] [] s) : WP X 9 k n 2513 [(0, .ref v0), (1, .ref v1), (2, .ref v2), (3, .ref v3), (4, .ref v4), (5, .int v5)] [] h := by
  unfold f_L_case50 at e
  refine z_aload_n E 1 dL_law_2513 rfl ?_
  refine z_aload_n E 0 dL_law_2514 rfl ?_
  refine z_iload E 5 dL_law_2515 rfl ?_
  refine z_iconst E dL_law_2517 ic_1 ?_
  refine z_iadd E dL_law_2518 ?_
  obtain ⟨x1, e2, e⟩ := ob e
  refine z_iald E dL_law_2519 e2 ?_
  refine z_aload_n E 3 dL_law_2520 rfl ?_
  obtain ⟨p3, e4, e⟩ := ob e
  refine z_kR2 (st := []) (av := [.ref v1, .int x1, .ref v3]) E (k + 1) (n + 6) (z_rSX (st := []) (av := [.ref v1, .int x1, .ref v3]) E Y_L_lineCharacter k_L_333 (c_L_lineCharacter (z_El E) e4) dL_law_2521 rfl rfl (by decide) (by decide) (Nat.le_trans (zk (k := k) (a := 1) hk (by decide)) hKB) (Nat.le_trans (zk (k := n) (a := 6) hn (by decide)) hNB) (Nat.zero_le _)) rfl rfl rfl ?_
  refine z_istore (lv2 := [(6, .int p3.1), (0, .ref v0), (1, .ref v1), (2, .ref v2), (3, .ref v3), (4, .ref v4), (5, .int v5)]) E dL_law_2524 (by decide) rfl ?_
  refine z_aload_n E 3 dL_law_2526 rfl ?_
  refine z_aload_n E 1 dL_law_2527 rfl ?_
  refine z_iload E 6 dL_law_2528 rfl ?_
  refine z_iconst E dL_law_2530 ic_1 ?_
  refine z_iadd E dL_law_2531 ?_
  obtain ⟨x5, e6, e⟩ := ob e
  refine z_iald E dL_law_2532 e6 ?_
  obtain ⟨_, e7, e⟩ := ob e
  obtain ⟨p8, e9, e⟩ := ob e
  refine z_kR2 (st := []) (av := [.ref v2, .int x5]) E (k + 1) (n + 6) (z_rV (st := []) (av := [.int x5]) E Y_X10_lineCharacter k_L_335 (ci := 12) rfl (c_X10_lineCharacter (z_El E) e9) dL_law_2533 e7 rfl rfl (by decide) (by decide) (Nat.le_trans (zk (k := k) (a := 1) hk (by decide)) hKB) (Nat.le_trans (zk (k := n) (a := 6) hn (by decide)) hNB) (Nat.zero_le _)) rfl rfl rfl ?_
  refine z_istore (lv2 := [(7, .int p8.1), (6, .int p3.1), (0, .ref v0), (1, .ref v1), (2, .ref v2), (3, .ref v3), (4, .ref v4), (5, .int v5)]) E dL_law_2536 (by decide) rfl ?_
  refine z_aload_n E 4 dL_law_2538 rfl ?_
  obtain ⟨_, e10, e⟩ := ob e
  obtain ⟨p11, e12, e⟩ := ob e
  refine z_kR2 (st := []) (av := [.ref v2]) E (k + 1) (n + 6) (z_rV (st := []) (av := []) E Y_X10_thrown k_L_161 (ci := 12) rfl (c_X10_thrown (z_El E) e12) dL_law_2539 e10 rfl rfl (by decide) (by decide) (Nat.le_trans (zk (k := k) (a := 1) hk (by decide)) hKB) (Nat.le_trans (zk (k := n) (a := 6) hn (by decide)) hNB) (Nat.zero_le _)) rfl rfl rfl ?_
  refine z_iload E 1 dL_law_2542 rfl ?_
  rcases oi e with ⟨c13, e⟩ | ⟨c13, e⟩
  · refine z_icmp_eqT (tgt := 2549) E dL_law_2544 rfl c13 ?_
    refine z_iload E 1 dL_law_2549 rfl ?_
    rcases oi e with ⟨c14, e⟩ | ⟨c14, e⟩
    · refine z_if_neT (tgt := 2566) E dL_law_2551 rfl c14 ?_
      refine z_goto (tgt := 2815) E dL_law_2566 rfl ?_
      obtain rfl := Option.some.inj e
      exact z_sub [2, 3, 4, 5, 6, 7] rfl (z_wide (zk (k := k) (a := 1) hk (by decide)) (zk (k := n) (a := 6) hn (by decide)) kk)
    · refine z_if_neF (tgt := 2566) E dL_law_2551 rfl (Classical.not_not.mp c14) ?_
      refine z_aload_n E 5 dL_law_2554 rfl ?_
      refine z_iconst E dL_law_2555 ic_0 ?_
      obtain ⟨x15, e16, e⟩ := ob e
      refine z_lald E dL_law_2556 e16 ?_
      refine z_iload E 0 dL_law_2557 rfl ?_
      refine z_i2l (v := p8.1.toInt64) E dL_law_2559 rfl ?_
      refine z_lcmp E dL_law_2560 ?_
      rcases oi e with ⟨c17, e⟩ | ⟨c17, e⟩
      · refine z_if_eqT (tgt := 2566) E dL_law_2561 rfl c17 ?_
        refine z_goto (tgt := 2815) E dL_law_2566 rfl ?_
        obtain rfl := Option.some.inj e
        exact z_sub [2, 3, 4, 5, 6, 7] rfl (z_wide (zk (k := k) (a := 1) hk (by decide)) (zk (k := n) (a := 6) hn (by decide)) kk)
      · refine z_if_eqF (tgt := 2566) E dL_law_2561 rfl c17 ?_
        cases e
  · refine z_icmp_eqF (tgt := 2549) E dL_law_2544 rfl c13 ?_
    cases e
noncomputable def f_L_case51 (h : PH) (v0 : Nat) (v1 : Nat) (v2 : Nat) (v3 : Nat) (v4 : Nat) (v5 : Int32) : Option PH :=
  (f_L_denial h v1 v3).bind fun p1 =>
  (gd p1.2 v2 12).bind fun _ =>
  (f_X10_denial p1.2 v2).bind fun p4 =>
  (gd p4.2 v2 12).bind fun _ =>
  (f_X10_thrown p4.2 v2).bind fun p7 =>
  if p7 = p1.1 then
    if ¬ p1.1 = 0 then
      some p4.2
    else
      (alL p4.2 v3 (0 : Int32)).bind fun x11 =>
      if (lg_cmp x11 p4.1.toInt64) = 0 then
        some p4.2
      else
        none
  else
    none
theorem b_L_case51 {X : PX} (E : z_E X cL_law RL "law" 9 room_1 (some .boolean)) {k n KB NB : Nat} (hk : k + 1 ≤ KB) (hn : n + 6 ≤ NB) (hKB : KB ≤ room_1.cells) (hNB : NB ≤ room_1.slots) {h : PH} {v0 v1 v2 v3 v4 : Nat} {v5 : Int32} {s : PH} (e : f_L_case51 h v0 v1 v2 v3 v4 v5 = some s) (kk : WP X 9 KB NB 2815 [(0, .ref v0), (1, .ref v1), (2, .ref v2), (3, .ref v3), (4, .ref v4), (5, .int v5)] [] s) : WP X 9 k n 2569 [(0, .ref v0), (1, .ref v1), (2, .ref v2), (3, .ref v3), (4, .ref v4), (5, .int v5)] [] h := by
  unfold f_L_case51 at e
  refine z_aload_n E 1 dL_law_2569 rfl ?_
  refine z_aload_n E 3 dL_law_2570 rfl ?_
  obtain ⟨p1, e2, e⟩ := ob e
  refine z_kR2 (st := []) (av := [.ref v1, .ref v3]) E (k + 1) (n + 6) (z_rSX (st := []) (av := [.ref v1, .ref v3]) E Y_L_denial k_L_336 (c_L_denial (z_El E) e2) dL_law_2571 rfl rfl (by decide) (by decide) (Nat.le_trans (zk (k := k) (a := 1) hk (by decide)) hKB) (Nat.le_trans (zk (k := n) (a := 6) hn (by decide)) hNB) (Nat.zero_le _)) rfl rfl rfl ?_
  refine z_istore (lv2 := [(6, .int p1.1), (0, .ref v0), (1, .ref v1), (2, .ref v2), (3, .ref v3), (4, .ref v4), (5, .int v5)]) E dL_law_2574 (by decide) rfl ?_
  refine z_aload_n E 3 dL_law_2576 rfl ?_
  obtain ⟨_, e3, e⟩ := ob e
  obtain ⟨p4, e5, e⟩ := ob e
  refine z_kR2 (st := []) (av := [.ref v2]) E (k + 1) (n + 6) (z_rV (st := []) (av := []) E Y_X10_denial k_L_338 (ci := 12) rfl (c_X10_denial (z_El E) e5) dL_law_2577 e3 rfl rfl (by decide) (by decide) (Nat.le_trans (zk (k := k) (a := 1) hk (by decide)) hKB) (Nat.le_trans (zk (k := n) (a := 6) hn (by decide)) hNB) (Nat.zero_le _)) rfl rfl rfl ?_
  refine z_istore (lv2 := [(7, .int p4.1), (6, .int p1.1), (0, .ref v0), (1, .ref v1), (2, .ref v2), (3, .ref v3), (4, .ref v4), (5, .int v5)]) E dL_law_2580 (by decide) rfl ?_
  refine z_aload_n E 4 dL_law_2582 rfl ?_
  obtain ⟨_, e6, e⟩ := ob e
  obtain ⟨p7, e8, e⟩ := ob e
  refine z_kR2 (st := []) (av := [.ref v2]) E (k + 1) (n + 6) (z_rV (st := []) (av := []) E Y_X10_thrown k_L_161 (ci := 12) rfl (c_X10_thrown (z_El E) e8) dL_law_2583 e6 rfl rfl (by decide) (by decide) (Nat.le_trans (zk (k := k) (a := 1) hk (by decide)) hKB) (Nat.le_trans (zk (k := n) (a := 6) hn (by decide)) hNB) (Nat.zero_le _)) rfl rfl rfl ?_
  refine z_iload E 1 dL_law_2586 rfl ?_
  rcases oi e with ⟨c9, e⟩ | ⟨c9, e⟩
  · refine z_icmp_eqT (tgt := 2593) E dL_law_2588 rfl c9 ?_
    refine z_iload E 1 dL_law_2593 rfl ?_
    rcases oi e with ⟨c10, e⟩ | ⟨c10, e⟩
    · refine z_if_neT (tgt := 2610) E dL_law_2595 rfl c10 ?_
      refine z_goto (tgt := 2815) E dL_law_2610 rfl ?_
      obtain rfl := Option.some.inj e
      exact z_sub [2, 3, 4, 5, 6, 7] rfl (z_wide (zk (k := k) (a := 1) hk (by decide)) (zk (k := n) (a := 6) hn (by decide)) kk)
    · refine z_if_neF (tgt := 2610) E dL_law_2595 rfl (Classical.not_not.mp c10) ?_
      refine z_aload_n E 5 dL_law_2598 rfl ?_
      refine z_iconst E dL_law_2599 ic_0 ?_
      obtain ⟨x11, e12, e⟩ := ob e
      refine z_lald E dL_law_2600 e12 ?_
      refine z_iload E 0 dL_law_2601 rfl ?_
      refine z_i2l (v := p4.1.toInt64) E dL_law_2603 rfl ?_
      refine z_lcmp E dL_law_2604 ?_
      rcases oi e with ⟨c13, e⟩ | ⟨c13, e⟩
      · refine z_if_eqT (tgt := 2610) E dL_law_2605 rfl c13 ?_
        refine z_goto (tgt := 2815) E dL_law_2610 rfl ?_
        obtain rfl := Option.some.inj e
        exact z_sub [2, 3, 4, 5, 6, 7] rfl (z_wide (zk (k := k) (a := 1) hk (by decide)) (zk (k := n) (a := 6) hn (by decide)) kk)
      · refine z_if_eqF (tgt := 2610) E dL_law_2605 rfl c13 ?_
        cases e
  · refine z_icmp_eqF (tgt := 2593) E dL_law_2588 rfl c9 ?_
    cases e
noncomputable def f_L_case52 (h : PH) (v0 : Nat) (v1 : Nat) (v2 : Nat) (v3 : Nat) (v4 : Nat) (v5 : Int32) : Option PH :=
  (f_L_denialDetail h v1 v3).bind fun p1 =>
  (gd p1.2 v2 12).bind fun _ =>
  (f_X10_denialDetail p1.2 v2).bind fun p4 =>
  (gd p4.2 v2 12).bind fun _ =>
  (f_X10_thrown p4.2 v2).bind fun p7 =>
  if p7 = p1.1 then
    if ¬ p1.1 = 0 then
      some p4.2
    else
      (alL p4.2 v3 (0 : Int32)).bind fun x11 =>
      if (lg_cmp x11 p4.1.toInt64) = 0 then
        some p4.2
      else
        none
  else
    none
theorem b_L_case52 {X : PX} (E : z_E X cL_law RL "law" 9 room_1 (some .boolean)) {k n KB NB : Nat} (hk : k + 1 ≤ KB) (hn : n + 6 ≤ NB) (hKB : KB ≤ room_1.cells) (hNB : NB ≤ room_1.slots) {h : PH} {v0 v1 v2 v3 v4 : Nat} {v5 : Int32} {s : PH} (e : f_L_case52 h v0 v1 v2 v3 v4 v5 = some s) (kk : WP X 9 KB NB 2815 [(0, .ref v0), (1, .ref v1), (2, .ref v2), (3, .ref v3), (4, .ref v4), (5, .int v5)] [] s) : WP X 9 k n 2613 [(0, .ref v0), (1, .ref v1), (2, .ref v2), (3, .ref v3), (4, .ref v4), (5, .int v5)] [] h := by
  unfold f_L_case52 at e
  refine z_aload_n E 1 dL_law_2613 rfl ?_
  refine z_aload_n E 3 dL_law_2614 rfl ?_
  obtain ⟨p1, e2, e⟩ := ob e
  refine z_kR2 (st := []) (av := [.ref v1, .ref v3]) E (k + 1) (n + 6) (z_rSX (st := []) (av := [.ref v1, .ref v3]) E Y_L_denialDetail k_L_339 (c_L_denialDetail (z_El E) e2) dL_law_2615 rfl rfl (by decide) (by decide) (Nat.le_trans (zk (k := k) (a := 1) hk (by decide)) hKB) (Nat.le_trans (zk (k := n) (a := 6) hn (by decide)) hNB) (Nat.zero_le _)) rfl rfl rfl ?_
  refine z_istore (lv2 := [(6, .int p1.1), (0, .ref v0), (1, .ref v1), (2, .ref v2), (3, .ref v3), (4, .ref v4), (5, .int v5)]) E dL_law_2618 (by decide) rfl ?_
  refine z_aload_n E 3 dL_law_2620 rfl ?_
  obtain ⟨_, e3, e⟩ := ob e
  obtain ⟨p4, e5, e⟩ := ob e
  refine z_kR2 (st := []) (av := [.ref v2]) E (k + 1) (n + 6) (z_rV (st := []) (av := []) E Y_X10_denialDetail k_L_341 (ci := 12) rfl (c_X10_denialDetail (z_El E) e5) dL_law_2621 e3 rfl rfl (by decide) (by decide) (Nat.le_trans (zk (k := k) (a := 1) hk (by decide)) hKB) (Nat.le_trans (zk (k := n) (a := 6) hn (by decide)) hNB) (Nat.zero_le _)) rfl rfl rfl ?_
  refine z_istore (lv2 := [(7, .int p4.1), (6, .int p1.1), (0, .ref v0), (1, .ref v1), (2, .ref v2), (3, .ref v3), (4, .ref v4), (5, .int v5)]) E dL_law_2624 (by decide) rfl ?_
  refine z_aload_n E 4 dL_law_2626 rfl ?_
  obtain ⟨_, e6, e⟩ := ob e
  obtain ⟨p7, e8, e⟩ := ob e
  refine z_kR2 (st := []) (av := [.ref v2]) E (k + 1) (n + 6) (z_rV (st := []) (av := []) E Y_X10_thrown k_L_161 (ci := 12) rfl (c_X10_thrown (z_El E) e8) dL_law_2627 e6 rfl rfl (by decide) (by decide) (Nat.le_trans (zk (k := k) (a := 1) hk (by decide)) hKB) (Nat.le_trans (zk (k := n) (a := 6) hn (by decide)) hNB) (Nat.zero_le _)) rfl rfl rfl ?_
  refine z_iload E 1 dL_law_2630 rfl ?_
  rcases oi e with ⟨c9, e⟩ | ⟨c9, e⟩
  · refine z_icmp_eqT (tgt := 2637) E dL_law_2632 rfl c9 ?_
    refine z_iload E 1 dL_law_2637 rfl ?_
    rcases oi e with ⟨c10, e⟩ | ⟨c10, e⟩
    · refine z_if_neT (tgt := 2654) E dL_law_2639 rfl c10 ?_
      refine z_goto (tgt := 2815) E dL_law_2654 rfl ?_
      obtain rfl := Option.some.inj e
      exact z_sub [2, 3, 4, 5, 6, 7] rfl (z_wide (zk (k := k) (a := 1) hk (by decide)) (zk (k := n) (a := 6) hn (by decide)) kk)
    · refine z_if_neF (tgt := 2654) E dL_law_2639 rfl (Classical.not_not.mp c10) ?_
      refine z_aload_n E 5 dL_law_2642 rfl ?_
      refine z_iconst E dL_law_2643 ic_0 ?_
      obtain ⟨x11, e12, e⟩ := ob e
      refine z_lald E dL_law_2644 e12 ?_
      refine z_iload E 0 dL_law_2645 rfl ?_
      refine z_i2l (v := p4.1.toInt64) E dL_law_2647 rfl ?_
      refine z_lcmp E dL_law_2648 ?_
      rcases oi e with ⟨c13, e⟩ | ⟨c13, e⟩
      · refine z_if_eqT (tgt := 2654) E dL_law_2649 rfl c13 ?_
        refine z_goto (tgt := 2815) E dL_law_2654 rfl ?_
        obtain rfl := Option.some.inj e
        exact z_sub [2, 3, 4, 5, 6, 7] rfl (z_wide (zk (k := k) (a := 1) hk (by decide)) (zk (k := n) (a := 6) hn (by decide)) kk)
      · refine z_if_eqF (tgt := 2654) E dL_law_2649 rfl c13 ?_
        cases e
  · refine z_icmp_eqF (tgt := 2637) E dL_law_2632 rfl c9 ?_
    cases e
noncomputable def f_L_case53 (h : PH) (v0 : Nat) (v1 : Nat) (v2 : Nat) (v3 : Nat) (v4 : Nat) (v5 : Int32) : Option PH :=
  (f_L_denialCause h v1 v3).bind fun p1 =>
  (gd p1.2 v2 12).bind fun _ =>
  (f_X10_denialCause p1.2 v2).bind fun p4 =>
  (gd p4.2 v2 12).bind fun _ =>
  (f_X10_thrown p4.2 v2).bind fun p7 =>
  if p7 = p1.1 then
    if ¬ p1.1 = 0 then
      some p4.2
    else
      (alL p4.2 v3 (0 : Int32)).bind fun x11 =>
      if (lg_cmp x11 p4.1.toInt64) = 0 then
        some p4.2
      else
        none
  else
    none
theorem b_L_case53 {X : PX} (E : z_E X cL_law RL "law" 9 room_1 (some .boolean)) {k n KB NB : Nat} (hk : k + 2 ≤ KB) (hn : n + 12 ≤ NB) (hKB : KB ≤ room_1.cells) (hNB : NB ≤ room_1.slots) {h : PH} {v0 v1 v2 v3 v4 : Nat} {v5 : Int32} {s : PH} (e : f_L_case53 h v0 v1 v2 v3 v4 v5 = some s) (kk : WP X 9 KB NB 2815 [(0, .ref v0), (1, .ref v1), (2, .ref v2), (3, .ref v3), (4, .ref v4), (5, .int v5)] [] s) : WP X 9 k n 2657 [(0, .ref v0), (1, .ref v1), (2, .ref v2), (3, .ref v3), (4, .ref v4), (5, .int v5)] [] h := by
  unfold f_L_case53 at e
  refine z_aload_n E 1 dL_law_2657 rfl ?_
  refine z_aload_n E 3 dL_law_2658 rfl ?_
  obtain ⟨p1, e2, e⟩ := ob e
  refine z_kR2 (st := []) (av := [.ref v1, .ref v3]) E (k + 2) (n + 12) (z_rSX (st := []) (av := [.ref v1, .ref v3]) E Y_L_denialCause k_L_342 (c_L_denialCause (z_El E) e2) dL_law_2659 rfl rfl (by decide) (by decide) (Nat.le_trans (zk (k := k) (a := 2) hk (by decide)) hKB) (Nat.le_trans (zk (k := n) (a := 12) hn (by decide)) hNB) (Nat.zero_le _)) rfl rfl rfl ?_
  refine z_istore (lv2 := [(6, .int p1.1), (0, .ref v0), (1, .ref v1), (2, .ref v2), (3, .ref v3), (4, .ref v4), (5, .int v5)]) E dL_law_2662 (by decide) rfl ?_
  refine z_aload_n E 3 dL_law_2664 rfl ?_
  obtain ⟨_, e3, e⟩ := ob e
  obtain ⟨p4, e5, e⟩ := ob e
  refine z_kR2 (st := []) (av := [.ref v2]) E (k + 2) (n + 12) (z_rV (st := []) (av := []) E Y_X10_denialCause k_L_344 (ci := 12) rfl (c_X10_denialCause (z_El E) e5) dL_law_2665 e3 rfl rfl (by decide) (by decide) (Nat.le_trans (zk (k := k) (a := 2) hk (by decide)) hKB) (Nat.le_trans (zk (k := n) (a := 12) hn (by decide)) hNB) (Nat.zero_le _)) rfl rfl rfl ?_
  refine z_istore (lv2 := [(7, .int p4.1), (6, .int p1.1), (0, .ref v0), (1, .ref v1), (2, .ref v2), (3, .ref v3), (4, .ref v4), (5, .int v5)]) E dL_law_2668 (by decide) rfl ?_
  refine z_aload_n E 4 dL_law_2670 rfl ?_
  obtain ⟨_, e6, e⟩ := ob e
  obtain ⟨p7, e8, e⟩ := ob e
  refine z_kR2 (st := []) (av := [.ref v2]) E (k + 2) (n + 12) (z_rV (st := []) (av := []) E Y_X10_thrown k_L_161 (ci := 12) rfl (c_X10_thrown (z_El E) e8) dL_law_2671 e6 rfl rfl (by decide) (by decide) (Nat.le_trans (zk (k := k) (a := 2) hk (by decide)) hKB) (Nat.le_trans (zk (k := n) (a := 12) hn (by decide)) hNB) (Nat.zero_le _)) rfl rfl rfl ?_
  refine z_iload E 1 dL_law_2674 rfl ?_
  rcases oi e with ⟨c9, e⟩ | ⟨c9, e⟩
  · refine z_icmp_eqT (tgt := 2681) E dL_law_2676 rfl c9 ?_
    refine z_iload E 1 dL_law_2681 rfl ?_
    rcases oi e with ⟨c10, e⟩ | ⟨c10, e⟩
    · refine z_if_neT (tgt := 2698) E dL_law_2683 rfl c10 ?_
      refine z_goto (tgt := 2815) E dL_law_2698 rfl ?_
      obtain rfl := Option.some.inj e
      exact z_sub [2, 3, 4, 5, 6, 7] rfl (z_wide (zk (k := k) (a := 2) hk (by decide)) (zk (k := n) (a := 12) hn (by decide)) kk)
    · refine z_if_neF (tgt := 2698) E dL_law_2683 rfl (Classical.not_not.mp c10) ?_
      refine z_aload_n E 5 dL_law_2686 rfl ?_
      refine z_iconst E dL_law_2687 ic_0 ?_
      obtain ⟨x11, e12, e⟩ := ob e
      refine z_lald E dL_law_2688 e12 ?_
      refine z_iload E 0 dL_law_2689 rfl ?_
      refine z_i2l (v := p4.1.toInt64) E dL_law_2691 rfl ?_
      refine z_lcmp E dL_law_2692 ?_
      rcases oi e with ⟨c13, e⟩ | ⟨c13, e⟩
      · refine z_if_eqT (tgt := 2698) E dL_law_2693 rfl c13 ?_
        refine z_goto (tgt := 2815) E dL_law_2698 rfl ?_
        obtain rfl := Option.some.inj e
        exact z_sub [2, 3, 4, 5, 6, 7] rfl (z_wide (zk (k := k) (a := 2) hk (by decide)) (zk (k := n) (a := 12) hn (by decide)) kk)
      · refine z_if_eqF (tgt := 2698) E dL_law_2693 rfl c13 ?_
        cases e
  · refine z_icmp_eqF (tgt := 2681) E dL_law_2676 rfl c9 ?_
    cases e
noncomputable def f_L_case54 (h : PH) (v0 : Nat) (v1 : Nat) (v2 : Nat) (v3 : Nat) (v4 : Nat) (v5 : Int32) : Option PH :=
  (f_L_undo h v1 v3).bind fun p1 =>
  (gd p1.2 v2 12).bind fun _ =>
  (f_X10_undo p1.2 v2).bind fun p4 =>
  (gd p4.2 v2 12).bind fun _ =>
  (f_X10_thrown p4.2 v2).bind fun p7 =>
  if p7 = p1.1 then
    if ¬ p1.1 = 0 then
      some p4.2
    else
      (alL p4.2 v3 (0 : Int32)).bind fun x11 =>
      if (lg_cmp x11 p4.1.toInt64) = 0 then
        some p4.2
      else
        none
  else
    none
theorem b_L_case54 {X : PX} (E : z_E X cL_law RL "law" 9 room_1 (some .boolean)) {k n KB NB : Nat} (hk : k + 1 ≤ KB) (hn : n + 6 ≤ NB) (hKB : KB ≤ room_1.cells) (hNB : NB ≤ room_1.slots) {h : PH} {v0 v1 v2 v3 v4 : Nat} {v5 : Int32} {s : PH} (e : f_L_case54 h v0 v1 v2 v3 v4 v5 = some s) (kk : WP X 9 KB NB 2815 [(0, .ref v0), (1, .ref v1), (2, .ref v2), (3, .ref v3), (4, .ref v4), (5, .int v5)] [] s) : WP X 9 k n 2701 [(0, .ref v0), (1, .ref v1), (2, .ref v2), (3, .ref v3), (4, .ref v4), (5, .int v5)] [] h := by
  unfold f_L_case54 at e
  refine z_aload_n E 1 dL_law_2701 rfl ?_
  refine z_aload_n E 3 dL_law_2702 rfl ?_
  obtain ⟨p1, e2, e⟩ := ob e
  refine z_kR2 (st := []) (av := [.ref v1, .ref v3]) E (k + 1) (n + 6) (z_rSX (st := []) (av := [.ref v1, .ref v3]) E Y_L_undo k_L_345 (c_L_undo (z_El E) e2) dL_law_2703 rfl rfl (by decide) (by decide) (Nat.le_trans (zk (k := k) (a := 1) hk (by decide)) hKB) (Nat.le_trans (zk (k := n) (a := 6) hn (by decide)) hNB) (Nat.zero_le _)) rfl rfl rfl ?_
  refine z_istore (lv2 := [(6, .int p1.1), (0, .ref v0), (1, .ref v1), (2, .ref v2), (3, .ref v3), (4, .ref v4), (5, .int v5)]) E dL_law_2706 (by decide) rfl ?_
  refine z_aload_n E 3 dL_law_2708 rfl ?_
  obtain ⟨_, e3, e⟩ := ob e
  obtain ⟨p4, e5, e⟩ := ob e
  refine z_kR2 (st := []) (av := [.ref v2]) E (k + 1) (n + 6) (z_rV (st := []) (av := []) E Y_X10_undo k_L_347 (ci := 12) rfl (c_X10_undo (z_El E) e5) dL_law_2709 e3 rfl rfl (by decide) (by decide) (Nat.le_trans (zk (k := k) (a := 1) hk (by decide)) hKB) (Nat.le_trans (zk (k := n) (a := 6) hn (by decide)) hNB) (Nat.zero_le _)) rfl rfl rfl ?_
  refine z_istore (lv2 := [(7, .int p4.1), (6, .int p1.1), (0, .ref v0), (1, .ref v1), (2, .ref v2), (3, .ref v3), (4, .ref v4), (5, .int v5)]) E dL_law_2712 (by decide) rfl ?_
  refine z_aload_n E 4 dL_law_2714 rfl ?_
  obtain ⟨_, e6, e⟩ := ob e
  obtain ⟨p7, e8, e⟩ := ob e
  refine z_kR2 (st := []) (av := [.ref v2]) E (k + 1) (n + 6) (z_rV (st := []) (av := []) E Y_X10_thrown k_L_161 (ci := 12) rfl (c_X10_thrown (z_El E) e8) dL_law_2715 e6 rfl rfl (by decide) (by decide) (Nat.le_trans (zk (k := k) (a := 1) hk (by decide)) hKB) (Nat.le_trans (zk (k := n) (a := 6) hn (by decide)) hNB) (Nat.zero_le _)) rfl rfl rfl ?_
  refine z_iload E 1 dL_law_2718 rfl ?_
  rcases oi e with ⟨c9, e⟩ | ⟨c9, e⟩
  · refine z_icmp_eqT (tgt := 2725) E dL_law_2720 rfl c9 ?_
    refine z_iload E 1 dL_law_2725 rfl ?_
    rcases oi e with ⟨c10, e⟩ | ⟨c10, e⟩
    · refine z_if_neT (tgt := 2742) E dL_law_2727 rfl c10 ?_
      refine z_goto (tgt := 2815) E dL_law_2742 rfl ?_
      obtain rfl := Option.some.inj e
      exact z_sub [2, 3, 4, 5, 6, 7] rfl (z_wide (zk (k := k) (a := 1) hk (by decide)) (zk (k := n) (a := 6) hn (by decide)) kk)
    · refine z_if_neF (tgt := 2742) E dL_law_2727 rfl (Classical.not_not.mp c10) ?_
      refine z_aload_n E 5 dL_law_2730 rfl ?_
      refine z_iconst E dL_law_2731 ic_0 ?_
      obtain ⟨x11, e12, e⟩ := ob e
      refine z_lald E dL_law_2732 e12 ?_
      refine z_iload E 0 dL_law_2733 rfl ?_
      refine z_i2l (v := p4.1.toInt64) E dL_law_2735 rfl ?_
      refine z_lcmp E dL_law_2736 ?_
      rcases oi e with ⟨c13, e⟩ | ⟨c13, e⟩
      · refine z_if_eqT (tgt := 2742) E dL_law_2737 rfl c13 ?_
        refine z_goto (tgt := 2815) E dL_law_2742 rfl ?_
        obtain rfl := Option.some.inj e
        exact z_sub [2, 3, 4, 5, 6, 7] rfl (z_wide (zk (k := k) (a := 1) hk (by decide)) (zk (k := n) (a := 6) hn (by decide)) kk)
      · refine z_if_eqF (tgt := 2742) E dL_law_2737 rfl c13 ?_
        cases e
  · refine z_icmp_eqF (tgt := 2725) E dL_law_2720 rfl c9 ?_
    cases e
noncomputable def f_L_case55 (h : PH) (v0 : Nat) (v1 : Nat) (v2 : Nat) (v3 : Nat) (v4 : Nat) (v5 : Int32) : Option PH :=
  (gd h v1 11).bind fun _ =>
  (f_X9_undoCount h v1).bind fun p2 =>
  (gd h v2 12).bind fun _ =>
  (f_X10_undoCount h v2).bind fun p5 =>
  if p2 = p5.1 then
    some p5.2
  else
    none
theorem b_L_case55 {X : PX} (E : z_E X cL_law RL "law" 9 room_1 (some .boolean)) {k n KB NB : Nat} (hk : k + 0 ≤ KB) (hn : n + 0 ≤ NB) (hKB : KB ≤ room_1.cells) (hNB : NB ≤ room_1.slots) {h : PH} {v0 v1 v2 v3 v4 : Nat} {v5 : Int32} {s : PH} (e : f_L_case55 h v0 v1 v2 v3 v4 v5 = some s) (kk : WP X 9 KB NB 2815 [(0, .ref v0), (1, .ref v1), (2, .ref v2), (3, .ref v3), (4, .ref v4), (5, .int v5)] [] s) : WP X 9 k n 2745 [(0, .ref v0), (1, .ref v1), (2, .ref v2), (3, .ref v3), (4, .ref v4), (5, .int v5)] [] h := by
  unfold f_L_case55 at e
  refine z_aload_n E 1 dL_law_2745 rfl ?_
  obtain ⟨_, e1, e⟩ := ob e
  obtain ⟨p2, e3, e⟩ := ob e
  refine z_kR2 (st := []) (av := [.ref v1]) E k n (z_rV (st := []) (av := []) E Y_X9_undoCount k_L_348 (ci := 11) rfl (c_X9_undoCount (z_El E) e3) dL_law_2746 e1 rfl rfl (by decide) (by decide) (Nat.le_trans (zk (k := k) (a := 0) hk (by decide)) hKB) (Nat.le_trans (zk (k := n) (a := 0) hn (by decide)) hNB) (Nat.zero_le _)) rfl rfl rfl ?_
  refine z_aload_n E 2 dL_law_2749 rfl ?_
  obtain ⟨_, e4, e⟩ := ob e
  obtain ⟨p5, e6, e⟩ := ob e
  refine z_kR2 (st := [.int p2]) (av := [.ref v2]) E k n (z_rV (st := [.int p2]) (av := []) E Y_X10_undoCount k_L_351 (ci := 12) rfl (c_X10_undoCount (z_El E) e6) dL_law_2750 e4 rfl rfl (by decide) (by decide) (Nat.le_trans (zk (k := k) (a := 0) hk (by decide)) hKB) (Nat.le_trans (zk (k := n) (a := 0) hn (by decide)) hNB) (Nat.le_of_ble_eq_true rfl)) rfl rfl rfl ?_
  rcases oi e with ⟨c7, e⟩ | ⟨c7, e⟩
  · refine z_icmp_eqT (tgt := 2815) E dL_law_2753 rfl c7 ?_
    obtain rfl := Option.some.inj e
    exact z_sub [0, 1, 2, 3, 4, 5] rfl (z_wide (zk (k := k) (a := 0) hk (by decide)) (zk (k := n) (a := 0) hn (by decide)) kk)
  · refine z_icmp_eqF (tgt := 2815) E dL_law_2753 rfl c7 ?_
    cases e
noncomputable def f_L_case56 (h : PH) (v0 : Nat) (v1 : Nat) (v2 : Nat) (v3 : Nat) (v4 : Nat) (v5 : Int32) : Option PH :=
  (gd h v1 11).bind fun _ =>
  (f_X9_saveSnapshot h v1).bind fun p2 =>
  (gd p2.2 v2 12).bind fun _ =>
  (f_X10_saveSnapshot p2.2 v2).bind fun p5 =>
  if p2.1 = p5.1 then
    some p5.2
  else
    none
theorem b_L_case56 {X : PX} (E : z_E X cL_law RL "law" 9 room_1 (some .boolean)) {k n KB NB : Nat} (hk : k + 11 ≤ KB) (hn : n + 111 ≤ NB) (hKB : KB ≤ room_1.cells) (hNB : NB ≤ room_1.slots) {h : PH} {v0 v1 v2 v3 v4 : Nat} {v5 : Int32} {s : PH} (e : f_L_case56 h v0 v1 v2 v3 v4 v5 = some s) (kk : WP X 9 KB NB 2815 [(0, .ref v0), (1, .ref v1), (2, .ref v2), (3, .ref v3), (4, .ref v4), (5, .int v5)] [] s) : WP X 9 k n 2758 [(0, .ref v0), (1, .ref v1), (2, .ref v2), (3, .ref v3), (4, .ref v4), (5, .int v5)] [] h := by
  unfold f_L_case56 at e
  refine z_aload_n E 1 dL_law_2758 rfl ?_
  obtain ⟨_, e1, e⟩ := ob e
  obtain ⟨p2, e3, e⟩ := ob e
  refine z_kR2 (st := []) (av := [.ref v1]) E (k + 11) (n + 111) (z_rV (st := []) (av := []) E Y_X9_saveSnapshot k_L_352 (ci := 11) rfl (c_X9_saveSnapshot (z_El E) e3) dL_law_2759 e1 rfl rfl (by decide) (by decide) (Nat.le_trans (zk (k := k) (a := 11) hk (by decide)) hKB) (Nat.le_trans (zk (k := n) (a := 111) hn (by decide)) hNB) (Nat.zero_le _)) rfl rfl rfl ?_
  refine z_aload_n E 2 dL_law_2762 rfl ?_
  obtain ⟨_, e4, e⟩ := ob e
  obtain ⟨p5, e6, e⟩ := ob e
  refine z_kR2 (st := [.int p2.1]) (av := [.ref v2]) E (k + 11) (n + 111) (z_rV (st := [.int p2.1]) (av := []) E Y_X10_saveSnapshot k_L_355 (ci := 12) rfl (c_X10_saveSnapshot (z_El E) e6) dL_law_2763 e4 rfl rfl (by decide) (by decide) (Nat.le_trans (zk (k := k) (a := 11) hk (by decide)) hKB) (Nat.le_trans (zk (k := n) (a := 111) hn (by decide)) hNB) (Nat.le_of_ble_eq_true rfl)) rfl rfl rfl ?_
  rcases oi e with ⟨c7, e⟩ | ⟨c7, e⟩
  · refine z_icmp_eqT (tgt := 2815) E dL_law_2766 rfl c7 ?_
    obtain rfl := Option.some.inj e
    exact z_sub [0, 1, 2, 3, 4, 5] rfl (z_wide (zk (k := k) (a := 11) hk (by decide)) (zk (k := n) (a := 111) hn (by decide)) kk)
  · refine z_icmp_eqF (tgt := 2815) E dL_law_2766 rfl c7 ?_
    cases e
noncomputable def f_L_case57 (h : PH) (v0 : Nat) (v1 : Nat) (v2 : Nat) (v3 : Nat) (v4 : Nat) (v5 : Int32) : Option PH :=
  (f_L_restoreSnapshot h v1 v3).bind fun p1 =>
  (gd p1.2 v2 12).bind fun _ =>
  (f_X10_restoreSnapshot p1.2 v2).bind fun p4 =>
  (gd p4.2 v2 12).bind fun _ =>
  (f_X10_thrown p4.2 v2).bind fun p7 =>
  if p7 = p1.1 then
    if ¬ p1.1 = 0 then
      some p4.2
    else
      (alL p4.2 v3 (0 : Int32)).bind fun x11 =>
      if (lg_cmp x11 p4.1.toInt64) = 0 then
        some p4.2
      else
        none
  else
    none
theorem b_L_case57 {X : PX} (E : z_E X cL_law RL "law" 9 room_1 (some .boolean)) {k n KB NB : Nat} (hk : k + 1 ≤ KB) (hn : n + 6 ≤ NB) (hKB : KB ≤ room_1.cells) (hNB : NB ≤ room_1.slots) {h : PH} {v0 v1 v2 v3 v4 : Nat} {v5 : Int32} {s : PH} (e : f_L_case57 h v0 v1 v2 v3 v4 v5 = some s) (kk : WP X 9 KB NB 2815 [(0, .ref v0), (1, .ref v1), (2, .ref v2), (3, .ref v3), (4, .ref v4), (5, .int v5)] [] s) : WP X 9 k n 2771 [(0, .ref v0), (1, .ref v1), (2, .ref v2), (3, .ref v3), (4, .ref v4), (5, .int v5)] [] h := by
  unfold f_L_case57 at e
  refine z_aload_n E 1 dL_law_2771 rfl ?_
  refine z_aload_n E 3 dL_law_2772 rfl ?_
  obtain ⟨p1, e2, e⟩ := ob e
  refine z_kR2 (st := []) (av := [.ref v1, .ref v3]) E (k + 1) (n + 6) (z_rSX (st := []) (av := [.ref v1, .ref v3]) E Y_L_restoreSnapshot k_L_356 (c_L_restoreSnapshot (z_El E) e2) dL_law_2773 rfl rfl (by decide) (by decide) (Nat.le_trans (zk (k := k) (a := 1) hk (by decide)) hKB) (Nat.le_trans (zk (k := n) (a := 6) hn (by decide)) hNB) (Nat.zero_le _)) rfl rfl rfl ?_
  refine z_istore (lv2 := [(6, .int p1.1), (0, .ref v0), (1, .ref v1), (2, .ref v2), (3, .ref v3), (4, .ref v4), (5, .int v5)]) E dL_law_2776 (by decide) rfl ?_
  refine z_aload_n E 3 dL_law_2778 rfl ?_
  obtain ⟨_, e3, e⟩ := ob e
  obtain ⟨p4, e5, e⟩ := ob e
  refine z_kR2 (st := []) (av := [.ref v2]) E (k + 1) (n + 6) (z_rV (st := []) (av := []) E Y_X10_restoreSnapshot k_L_358 (ci := 12) rfl (c_X10_restoreSnapshot (z_El E) e5) dL_law_2779 e3 rfl rfl (by decide) (by decide) (Nat.le_trans (zk (k := k) (a := 1) hk (by decide)) hKB) (Nat.le_trans (zk (k := n) (a := 6) hn (by decide)) hNB) (Nat.zero_le _)) rfl rfl rfl ?_
  refine z_istore (lv2 := [(7, .int p4.1), (6, .int p1.1), (0, .ref v0), (1, .ref v1), (2, .ref v2), (3, .ref v3), (4, .ref v4), (5, .int v5)]) E dL_law_2782 (by decide) rfl ?_
  refine z_aload_n E 4 dL_law_2784 rfl ?_
  obtain ⟨_, e6, e⟩ := ob e
  obtain ⟨p7, e8, e⟩ := ob e
  refine z_kR2 (st := []) (av := [.ref v2]) E (k + 1) (n + 6) (z_rV (st := []) (av := []) E Y_X10_thrown k_L_161 (ci := 12) rfl (c_X10_thrown (z_El E) e8) dL_law_2785 e6 rfl rfl (by decide) (by decide) (Nat.le_trans (zk (k := k) (a := 1) hk (by decide)) hKB) (Nat.le_trans (zk (k := n) (a := 6) hn (by decide)) hNB) (Nat.zero_le _)) rfl rfl rfl ?_
  refine z_iload E 1 dL_law_2788 rfl ?_
  rcases oi e with ⟨c9, e⟩ | ⟨c9, e⟩
  · refine z_icmp_eqT (tgt := 2795) E dL_law_2790 rfl c9 ?_
    refine z_iload E 1 dL_law_2795 rfl ?_
    rcases oi e with ⟨c10, e⟩ | ⟨c10, e⟩
    · refine z_if_neT (tgt := 2812) E dL_law_2797 rfl c10 ?_
      refine z_goto (tgt := 2815) E dL_law_2812 rfl ?_
      obtain rfl := Option.some.inj e
      exact z_sub [2, 3, 4, 5, 6, 7] rfl (z_wide (zk (k := k) (a := 1) hk (by decide)) (zk (k := n) (a := 6) hn (by decide)) kk)
    · refine z_if_neF (tgt := 2812) E dL_law_2797 rfl (Classical.not_not.mp c10) ?_
      refine z_aload_n E 5 dL_law_2800 rfl ?_
      refine z_iconst E dL_law_2801 ic_0 ?_
      obtain ⟨x11, e12, e⟩ := ob e
      refine z_lald E dL_law_2802 e12 ?_
      refine z_iload E 0 dL_law_2803 rfl ?_
      refine z_i2l (v := p4.1.toInt64) E dL_law_2805 rfl ?_
      refine z_lcmp E dL_law_2806 ?_
      rcases oi e with ⟨c13, e⟩ | ⟨c13, e⟩
      · refine z_if_eqT (tgt := 2812) E dL_law_2807 rfl c13 ?_
        refine z_goto (tgt := 2815) E dL_law_2812 rfl ?_
        obtain rfl := Option.some.inj e
        exact z_sub [2, 3, 4, 5, 6, 7] rfl (z_wide (zk (k := k) (a := 1) hk (by decide)) (zk (k := n) (a := 6) hn (by decide)) kk)
      · refine z_if_eqF (tgt := 2812) E dL_law_2807 rfl c13 ?_
        cases e
  · refine z_icmp_eqF (tgt := 2795) E dL_law_2790 rfl c9 ?_
    cases e
