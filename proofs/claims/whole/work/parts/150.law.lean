noncomputable def f_L_case0 (h : PH) (v0 : Nat) (v1 : Nat) (v2 : Nat) (v3 : Nat) (v4 : Nat) (v5 : Int32) : Option PH :=
  (alI .int h v0 (v5 + (1 : Int32))).bind fun x1 =>
  (alI .int h v0 (v5 + (2 : Int32))).bind fun x3 =>
  (f_L_addNote h v1 x1 x3 v3).bind fun p5 =>
  (alI .int p5.2 v0 (v5 + (1 : Int32))).bind fun x7 =>
  (alI .int p5.2 v0 (v5 + (2 : Int32))).bind fun x9 =>
  (gd p5.2 v2 12).bind fun _ =>
  (f_X10_addNote p5.2 v2 x7 x9).bind fun p12 =>
  (gd p12.2 v2 12).bind fun _ =>
  (f_X10_thrown p12.2 v2).bind fun p15 =>
  if p15 = p5.1 then
    if ¬ p5.1 = 0 then
      some p12.2
    else
      (alL p12.2 v3 (0 : Int32)).bind fun x19 =>
      if (lg_cmp x19 p12.1.toInt64) = 0 then
        some p12.2
      else
        none
  else
    none
theorem b_L_case0 {X : PX} (E : z_E X cL_law RL "law" 9 room_1 (some .boolean)) {k n KB NB : Nat} (hk : k + 12 ≤ KB) (hn : n + 117 ≤ NB) (hKB : KB ≤ room_1.cells) (hNB : NB ≤ room_1.slots) {h : PH} {v0 v1 v2 v3 v4 : Nat} {v5 : Int32} {s : PH} (e : f_L_case0 h v0 v1 v2 v3 v4 v5 = some s) (kk : WP X 9 KB NB 2815 [(0, .ref v0), (1, .ref v1), (2, .ref v2), (3, .ref v3), (4, .ref v4), (5, .int v5)] [] s) : WP X 9 k n 292 [(0, .ref v0), (1, .ref v1), (2, .ref v2), (3, .ref v3), (4, .ref v4), (5, .int v5)] [] h := by
  unfold f_L_case0 at e
  refine z_aload_n E 1 dL_law_292 rfl ?_
  refine z_aload_n E 0 dL_law_293 rfl ?_
  refine z_iload E 5 dL_law_294 rfl ?_
  refine z_iconst E dL_law_296 ic_1 ?_
  refine z_iadd E dL_law_297 ?_
  obtain ⟨x1, e2, e⟩ := ob e
  refine z_iald E dL_law_298 e2 ?_
  refine z_aload_n E 0 dL_law_299 rfl ?_
  refine z_iload E 5 dL_law_300 rfl ?_
  refine z_iconst E dL_law_302 ic_2 ?_
  refine z_iadd E dL_law_303 ?_
  obtain ⟨x3, e4, e⟩ := ob e
  refine z_iald E dL_law_304 e4 ?_
  refine z_aload_n E 3 dL_law_305 rfl ?_
  obtain ⟨p5, e6, e⟩ := ob e
  refine z_kR2 (st := []) (av := [.ref v1, .int x1, .int x3, .ref v3]) E (k + 12) (n + 117) (z_rSX (st := []) (av := [.ref v1, .int x1, .int x3, .ref v3]) E Y_L_addNote k_L_155 (c_L_addNote (z_El E) e6) dL_law_306 rfl rfl (by decide) (by decide) (Nat.le_trans (zk (k := k) (a := 12) hk (by decide)) hKB) (Nat.le_trans (zk (k := n) (a := 117) hn (by decide)) hNB) (Nat.zero_le _)) rfl rfl rfl ?_
  refine z_istore (lv2 := [(6, .int p5.1), (0, .ref v0), (1, .ref v1), (2, .ref v2), (3, .ref v3), (4, .ref v4), (5, .int v5)]) E dL_law_309 (by decide) rfl ?_
  refine z_aload_n E 3 dL_law_311 rfl ?_
  refine z_aload_n E 1 dL_law_312 rfl ?_
  refine z_iload E 6 dL_law_313 rfl ?_
  refine z_iconst E dL_law_315 ic_1 ?_
  refine z_iadd E dL_law_316 ?_
  obtain ⟨x7, e8, e⟩ := ob e
  refine z_iald E dL_law_317 e8 ?_
  refine z_aload_n E 1 dL_law_318 rfl ?_
  refine z_iload E 6 dL_law_319 rfl ?_
  refine z_iconst E dL_law_321 ic_2 ?_
  refine z_iadd E dL_law_322 ?_
  obtain ⟨x9, e10, e⟩ := ob e
  refine z_iald E dL_law_323 e10 ?_
  obtain ⟨_, e11, e⟩ := ob e
  obtain ⟨p12, e13, e⟩ := ob e
  refine z_kR2 (st := []) (av := [.ref v2, .int x7, .int x9]) E (k + 12) (n + 117) (z_rV (st := []) (av := [.int x7, .int x9]) E Y_X10_addNote k_L_160 (ci := 12) rfl (c_X10_addNote (z_El E) e13) dL_law_324 e11 rfl rfl (by decide) (by decide) (Nat.le_trans (zk (k := k) (a := 12) hk (by decide)) hKB) (Nat.le_trans (zk (k := n) (a := 117) hn (by decide)) hNB) (Nat.zero_le _)) rfl rfl rfl ?_
  refine z_istore (lv2 := [(7, .int p12.1), (6, .int p5.1), (0, .ref v0), (1, .ref v1), (2, .ref v2), (3, .ref v3), (4, .ref v4), (5, .int v5)]) E dL_law_327 (by decide) rfl ?_
  refine z_aload_n E 4 dL_law_329 rfl ?_
  obtain ⟨_, e14, e⟩ := ob e
  obtain ⟨p15, e16, e⟩ := ob e
  refine z_kR2 (st := []) (av := [.ref v2]) E (k + 12) (n + 117) (z_rV (st := []) (av := []) E Y_X10_thrown k_L_161 (ci := 12) rfl (c_X10_thrown (z_El E) e16) dL_law_330 e14 rfl rfl (by decide) (by decide) (Nat.le_trans (zk (k := k) (a := 12) hk (by decide)) hKB) (Nat.le_trans (zk (k := n) (a := 117) hn (by decide)) hNB) (Nat.zero_le _)) rfl rfl rfl ?_
  refine z_iload E 1 dL_law_333 rfl ?_
  rcases oi e with ⟨c17, e⟩ | ⟨c17, e⟩
  · refine z_icmp_eqT (tgt := 340) E dL_law_335 rfl c17 ?_
    refine z_iload E 1 dL_law_340 rfl ?_
    rcases oi e with ⟨c18, e⟩ | ⟨c18, e⟩
    · refine z_if_neT (tgt := 357) E dL_law_342 rfl c18 ?_
      refine z_goto (tgt := 2815) E dL_law_357 rfl ?_
      obtain rfl := Option.some.inj e
      exact z_sub [2, 3, 4, 5, 6, 7] rfl (z_wide (zk (k := k) (a := 12) hk (by decide)) (zk (k := n) (a := 117) hn (by decide)) kk)
    · refine z_if_neF (tgt := 357) E dL_law_342 rfl (Classical.not_not.mp c18) ?_
      refine z_aload_n E 5 dL_law_345 rfl ?_
      refine z_iconst E dL_law_346 ic_0 ?_
      obtain ⟨x19, e20, e⟩ := ob e
      refine z_lald E dL_law_347 e20 ?_
      refine z_iload E 0 dL_law_348 rfl ?_
      refine z_i2l (v := p12.1.toInt64) E dL_law_350 rfl ?_
      refine z_lcmp E dL_law_351 ?_
      rcases oi e with ⟨c21, e⟩ | ⟨c21, e⟩
      · refine z_if_eqT (tgt := 357) E dL_law_352 rfl c21 ?_
        refine z_goto (tgt := 2815) E dL_law_357 rfl ?_
        obtain rfl := Option.some.inj e
        exact z_sub [2, 3, 4, 5, 6, 7] rfl (z_wide (zk (k := k) (a := 12) hk (by decide)) (zk (k := n) (a := 117) hn (by decide)) kk)
      · refine z_if_eqF (tgt := 357) E dL_law_352 rfl c21 ?_
        cases e
  · refine z_icmp_eqF (tgt := 340) E dL_law_335 rfl c17 ?_
    cases e
noncomputable def f_L_case1 (h : PH) (v0 : Nat) (v1 : Nat) (v2 : Nat) (v3 : Nat) (v4 : Nat) (v5 : Int32) : Option PH :=
  (alI .int h v0 (v5 + (1 : Int32))).bind fun x1 =>
  (alI .int h v0 (v5 + (2 : Int32))).bind fun x3 =>
  (f_L_cite h v1 x1 x3 v3).bind fun p5 =>
  (alI .int p5.2 v0 (v5 + (1 : Int32))).bind fun x7 =>
  (alI .int p5.2 v0 (v5 + (2 : Int32))).bind fun x9 =>
  (gd p5.2 v2 12).bind fun _ =>
  (f_X10_cite p5.2 v2 x7 x9).bind fun p12 =>
  (gd p12.2 v2 12).bind fun _ =>
  (f_X10_thrown p12.2 v2).bind fun p15 =>
  if p15 = p5.1 then
    if ¬ p5.1 = 0 then
      some p12.2
    else
      (alL p12.2 v3 (0 : Int32)).bind fun x19 =>
      if (lg_cmp x19 p12.1.toInt64) = 0 then
        some p12.2
      else
        none
  else
    none
theorem b_L_case1 {X : PX} (E : z_E X cL_law RL "law" 9 room_1 (some .boolean)) {k n KB NB : Nat} (hk : k + 12 ≤ KB) (hn : n + 117 ≤ NB) (hKB : KB ≤ room_1.cells) (hNB : NB ≤ room_1.slots) {h : PH} {v0 v1 v2 v3 v4 : Nat} {v5 : Int32} {s : PH} (e : f_L_case1 h v0 v1 v2 v3 v4 v5 = some s) (kk : WP X 9 KB NB 2815 [(0, .ref v0), (1, .ref v1), (2, .ref v2), (3, .ref v3), (4, .ref v4), (5, .int v5)] [] s) : WP X 9 k n 360 [(0, .ref v0), (1, .ref v1), (2, .ref v2), (3, .ref v3), (4, .ref v4), (5, .int v5)] [] h := by
  unfold f_L_case1 at e
  refine z_aload_n E 1 dL_law_360 rfl ?_
  refine z_aload_n E 0 dL_law_361 rfl ?_
  refine z_iload E 5 dL_law_362 rfl ?_
  refine z_iconst E dL_law_364 ic_1 ?_
  refine z_iadd E dL_law_365 ?_
  obtain ⟨x1, e2, e⟩ := ob e
  refine z_iald E dL_law_366 e2 ?_
  refine z_aload_n E 0 dL_law_367 rfl ?_
  refine z_iload E 5 dL_law_368 rfl ?_
  refine z_iconst E dL_law_370 ic_2 ?_
  refine z_iadd E dL_law_371 ?_
  obtain ⟨x3, e4, e⟩ := ob e
  refine z_iald E dL_law_372 e4 ?_
  refine z_aload_n E 3 dL_law_373 rfl ?_
  obtain ⟨p5, e6, e⟩ := ob e
  refine z_kR2 (st := []) (av := [.ref v1, .int x1, .int x3, .ref v3]) E (k + 12) (n + 117) (z_rSX (st := []) (av := [.ref v1, .int x1, .int x3, .ref v3]) E Y_L_cite k_L_164 (c_L_cite (z_El E) e6) dL_law_374 rfl rfl (by decide) (by decide) (Nat.le_trans (zk (k := k) (a := 12) hk (by decide)) hKB) (Nat.le_trans (zk (k := n) (a := 117) hn (by decide)) hNB) (Nat.zero_le _)) rfl rfl rfl ?_
  refine z_istore (lv2 := [(6, .int p5.1), (0, .ref v0), (1, .ref v1), (2, .ref v2), (3, .ref v3), (4, .ref v4), (5, .int v5)]) E dL_law_377 (by decide) rfl ?_
  refine z_aload_n E 3 dL_law_379 rfl ?_
  refine z_aload_n E 1 dL_law_380 rfl ?_
  refine z_iload E 6 dL_law_381 rfl ?_
  refine z_iconst E dL_law_383 ic_1 ?_
  refine z_iadd E dL_law_384 ?_
  obtain ⟨x7, e8, e⟩ := ob e
  refine z_iald E dL_law_385 e8 ?_
  refine z_aload_n E 1 dL_law_386 rfl ?_
  refine z_iload E 6 dL_law_387 rfl ?_
  refine z_iconst E dL_law_389 ic_2 ?_
  refine z_iadd E dL_law_390 ?_
  obtain ⟨x9, e10, e⟩ := ob e
  refine z_iald E dL_law_391 e10 ?_
  obtain ⟨_, e11, e⟩ := ob e
  obtain ⟨p12, e13, e⟩ := ob e
  refine z_kR2 (st := []) (av := [.ref v2, .int x7, .int x9]) E (k + 12) (n + 117) (z_rV (st := []) (av := [.int x7, .int x9]) E Y_X10_cite k_L_166 (ci := 12) rfl (c_X10_cite (z_El E) e13) dL_law_392 e11 rfl rfl (by decide) (by decide) (Nat.le_trans (zk (k := k) (a := 12) hk (by decide)) hKB) (Nat.le_trans (zk (k := n) (a := 117) hn (by decide)) hNB) (Nat.zero_le _)) rfl rfl rfl ?_
  refine z_istore (lv2 := [(7, .int p12.1), (6, .int p5.1), (0, .ref v0), (1, .ref v1), (2, .ref v2), (3, .ref v3), (4, .ref v4), (5, .int v5)]) E dL_law_395 (by decide) rfl ?_
  refine z_aload_n E 4 dL_law_397 rfl ?_
  obtain ⟨_, e14, e⟩ := ob e
  obtain ⟨p15, e16, e⟩ := ob e
  refine z_kR2 (st := []) (av := [.ref v2]) E (k + 12) (n + 117) (z_rV (st := []) (av := []) E Y_X10_thrown k_L_161 (ci := 12) rfl (c_X10_thrown (z_El E) e16) dL_law_398 e14 rfl rfl (by decide) (by decide) (Nat.le_trans (zk (k := k) (a := 12) hk (by decide)) hKB) (Nat.le_trans (zk (k := n) (a := 117) hn (by decide)) hNB) (Nat.zero_le _)) rfl rfl rfl ?_
  refine z_iload E 1 dL_law_401 rfl ?_
  rcases oi e with ⟨c17, e⟩ | ⟨c17, e⟩
  · refine z_icmp_eqT (tgt := 408) E dL_law_403 rfl c17 ?_
    refine z_iload E 1 dL_law_408 rfl ?_
    rcases oi e with ⟨c18, e⟩ | ⟨c18, e⟩
    · refine z_if_neT (tgt := 425) E dL_law_410 rfl c18 ?_
      refine z_goto (tgt := 2815) E dL_law_425 rfl ?_
      obtain rfl := Option.some.inj e
      exact z_sub [2, 3, 4, 5, 6, 7] rfl (z_wide (zk (k := k) (a := 12) hk (by decide)) (zk (k := n) (a := 117) hn (by decide)) kk)
    · refine z_if_neF (tgt := 425) E dL_law_410 rfl (Classical.not_not.mp c18) ?_
      refine z_aload_n E 5 dL_law_413 rfl ?_
      refine z_iconst E dL_law_414 ic_0 ?_
      obtain ⟨x19, e20, e⟩ := ob e
      refine z_lald E dL_law_415 e20 ?_
      refine z_iload E 0 dL_law_416 rfl ?_
      refine z_i2l (v := p12.1.toInt64) E dL_law_418 rfl ?_
      refine z_lcmp E dL_law_419 ?_
      rcases oi e with ⟨c21, e⟩ | ⟨c21, e⟩
      · refine z_if_eqT (tgt := 425) E dL_law_420 rfl c21 ?_
        refine z_goto (tgt := 2815) E dL_law_425 rfl ?_
        obtain rfl := Option.some.inj e
        exact z_sub [2, 3, 4, 5, 6, 7] rfl (z_wide (zk (k := k) (a := 12) hk (by decide)) (zk (k := n) (a := 117) hn (by decide)) kk)
      · refine z_if_eqF (tgt := 425) E dL_law_420 rfl c21 ?_
        cases e
  · refine z_icmp_eqF (tgt := 408) E dL_law_403 rfl c17 ?_
    cases e
noncomputable def f_L_case2 (h : PH) (v0 : Nat) (v1 : Nat) (v2 : Nat) (v3 : Nat) (v4 : Nat) (v5 : Int32) : Option PH :=
  (alI .int h v0 (v5 + (1 : Int32))).bind fun x1 =>
  (alI .int h v0 (v5 + (2 : Int32))).bind fun x3 =>
  (f_L_uncite h v1 x1 x3 v3).bind fun p5 =>
  (alI .int p5.2 v0 (v5 + (1 : Int32))).bind fun x7 =>
  (alI .int p5.2 v0 (v5 + (2 : Int32))).bind fun x9 =>
  (gd p5.2 v2 12).bind fun _ =>
  (f_X10_uncite p5.2 v2 x7 x9).bind fun p12 =>
  (gd p12.2 v2 12).bind fun _ =>
  (f_X10_thrown p12.2 v2).bind fun p15 =>
  if p15 = p5.1 then
    if ¬ p5.1 = 0 then
      some p12.2
    else
      (alL p12.2 v3 (0 : Int32)).bind fun x19 =>
      if (lg_cmp x19 p12.1.toInt64) = 0 then
        some p12.2
      else
        none
  else
    none
theorem b_L_case2 {X : PX} (E : z_E X cL_law RL "law" 9 room_1 (some .boolean)) {k n KB NB : Nat} (hk : k + 12 ≤ KB) (hn : n + 117 ≤ NB) (hKB : KB ≤ room_1.cells) (hNB : NB ≤ room_1.slots) {h : PH} {v0 v1 v2 v3 v4 : Nat} {v5 : Int32} {s : PH} (e : f_L_case2 h v0 v1 v2 v3 v4 v5 = some s) (kk : WP X 9 KB NB 2815 [(0, .ref v0), (1, .ref v1), (2, .ref v2), (3, .ref v3), (4, .ref v4), (5, .int v5)] [] s) : WP X 9 k n 428 [(0, .ref v0), (1, .ref v1), (2, .ref v2), (3, .ref v3), (4, .ref v4), (5, .int v5)] [] h := by
  unfold f_L_case2 at e
  refine z_aload_n E 1 dL_law_428 rfl ?_
  refine z_aload_n E 0 dL_law_429 rfl ?_
  refine z_iload E 5 dL_law_430 rfl ?_
  refine z_iconst E dL_law_432 ic_1 ?_
  refine z_iadd E dL_law_433 ?_
  obtain ⟨x1, e2, e⟩ := ob e
  refine z_iald E dL_law_434 e2 ?_
  refine z_aload_n E 0 dL_law_435 rfl ?_
  refine z_iload E 5 dL_law_436 rfl ?_
  refine z_iconst E dL_law_438 ic_2 ?_
  refine z_iadd E dL_law_439 ?_
  obtain ⟨x3, e4, e⟩ := ob e
  refine z_iald E dL_law_440 e4 ?_
  refine z_aload_n E 3 dL_law_441 rfl ?_
  obtain ⟨p5, e6, e⟩ := ob e
  refine z_kR2 (st := []) (av := [.ref v1, .int x1, .int x3, .ref v3]) E (k + 12) (n + 117) (z_rSX (st := []) (av := [.ref v1, .int x1, .int x3, .ref v3]) E Y_L_uncite k_L_167 (c_L_uncite (z_El E) e6) dL_law_442 rfl rfl (by decide) (by decide) (Nat.le_trans (zk (k := k) (a := 12) hk (by decide)) hKB) (Nat.le_trans (zk (k := n) (a := 117) hn (by decide)) hNB) (Nat.zero_le _)) rfl rfl rfl ?_
  refine z_istore (lv2 := [(6, .int p5.1), (0, .ref v0), (1, .ref v1), (2, .ref v2), (3, .ref v3), (4, .ref v4), (5, .int v5)]) E dL_law_445 (by decide) rfl ?_
  refine z_aload_n E 3 dL_law_447 rfl ?_
  refine z_aload_n E 1 dL_law_448 rfl ?_
  refine z_iload E 6 dL_law_449 rfl ?_
  refine z_iconst E dL_law_451 ic_1 ?_
  refine z_iadd E dL_law_452 ?_
  obtain ⟨x7, e8, e⟩ := ob e
  refine z_iald E dL_law_453 e8 ?_
  refine z_aload_n E 1 dL_law_454 rfl ?_
  refine z_iload E 6 dL_law_455 rfl ?_
  refine z_iconst E dL_law_457 ic_2 ?_
  refine z_iadd E dL_law_458 ?_
  obtain ⟨x9, e10, e⟩ := ob e
  refine z_iald E dL_law_459 e10 ?_
  obtain ⟨_, e11, e⟩ := ob e
  obtain ⟨p12, e13, e⟩ := ob e
  refine z_kR2 (st := []) (av := [.ref v2, .int x7, .int x9]) E (k + 12) (n + 117) (z_rV (st := []) (av := [.int x7, .int x9]) E Y_X10_uncite k_L_169 (ci := 12) rfl (c_X10_uncite (z_El E) e13) dL_law_460 e11 rfl rfl (by decide) (by decide) (Nat.le_trans (zk (k := k) (a := 12) hk (by decide)) hKB) (Nat.le_trans (zk (k := n) (a := 117) hn (by decide)) hNB) (Nat.zero_le _)) rfl rfl rfl ?_
  refine z_istore (lv2 := [(7, .int p12.1), (6, .int p5.1), (0, .ref v0), (1, .ref v1), (2, .ref v2), (3, .ref v3), (4, .ref v4), (5, .int v5)]) E dL_law_463 (by decide) rfl ?_
  refine z_aload_n E 4 dL_law_465 rfl ?_
  obtain ⟨_, e14, e⟩ := ob e
  obtain ⟨p15, e16, e⟩ := ob e
  refine z_kR2 (st := []) (av := [.ref v2]) E (k + 12) (n + 117) (z_rV (st := []) (av := []) E Y_X10_thrown k_L_161 (ci := 12) rfl (c_X10_thrown (z_El E) e16) dL_law_466 e14 rfl rfl (by decide) (by decide) (Nat.le_trans (zk (k := k) (a := 12) hk (by decide)) hKB) (Nat.le_trans (zk (k := n) (a := 117) hn (by decide)) hNB) (Nat.zero_le _)) rfl rfl rfl ?_
  refine z_iload E 1 dL_law_469 rfl ?_
  rcases oi e with ⟨c17, e⟩ | ⟨c17, e⟩
  · refine z_icmp_eqT (tgt := 476) E dL_law_471 rfl c17 ?_
    refine z_iload E 1 dL_law_476 rfl ?_
    rcases oi e with ⟨c18, e⟩ | ⟨c18, e⟩
    · refine z_if_neT (tgt := 493) E dL_law_478 rfl c18 ?_
      refine z_goto (tgt := 2815) E dL_law_493 rfl ?_
      obtain rfl := Option.some.inj e
      exact z_sub [2, 3, 4, 5, 6, 7] rfl (z_wide (zk (k := k) (a := 12) hk (by decide)) (zk (k := n) (a := 117) hn (by decide)) kk)
    · refine z_if_neF (tgt := 493) E dL_law_478 rfl (Classical.not_not.mp c18) ?_
      refine z_aload_n E 5 dL_law_481 rfl ?_
      refine z_iconst E dL_law_482 ic_0 ?_
      obtain ⟨x19, e20, e⟩ := ob e
      refine z_lald E dL_law_483 e20 ?_
      refine z_iload E 0 dL_law_484 rfl ?_
      refine z_i2l (v := p12.1.toInt64) E dL_law_486 rfl ?_
      refine z_lcmp E dL_law_487 ?_
      rcases oi e with ⟨c21, e⟩ | ⟨c21, e⟩
      · refine z_if_eqT (tgt := 493) E dL_law_488 rfl c21 ?_
        refine z_goto (tgt := 2815) E dL_law_493 rfl ?_
        obtain rfl := Option.some.inj e
        exact z_sub [2, 3, 4, 5, 6, 7] rfl (z_wide (zk (k := k) (a := 12) hk (by decide)) (zk (k := n) (a := 117) hn (by decide)) kk)
      · refine z_if_eqF (tgt := 493) E dL_law_488 rfl c21 ?_
        cases e
  · refine z_icmp_eqF (tgt := 476) E dL_law_471 rfl c17 ?_
    cases e
noncomputable def f_L_case3 (h : PH) (v0 : Nat) (v1 : Nat) (v2 : Nat) (v3 : Nat) (v4 : Nat) (v5 : Int32) : Option PH :=
  (gd h v1 11).bind fun _ =>
  (f_X9_noteCount h v1).bind fun p2 =>
  (gd h v2 12).bind fun _ =>
  (f_X10_noteCount h v2).bind fun p5 =>
  if p2 = p5.1 then
    some p5.2
  else
    none
theorem b_L_case3 {X : PX} (E : z_E X cL_law RL "law" 9 room_1 (some .boolean)) {k n KB NB : Nat} (hk : k + 0 ≤ KB) (hn : n + 0 ≤ NB) (hKB : KB ≤ room_1.cells) (hNB : NB ≤ room_1.slots) {h : PH} {v0 v1 v2 v3 v4 : Nat} {v5 : Int32} {s : PH} (e : f_L_case3 h v0 v1 v2 v3 v4 v5 = some s) (kk : WP X 9 KB NB 2815 [(0, .ref v0), (1, .ref v1), (2, .ref v2), (3, .ref v3), (4, .ref v4), (5, .int v5)] [] s) : WP X 9 k n 496 [(0, .ref v0), (1, .ref v1), (2, .ref v2), (3, .ref v3), (4, .ref v4), (5, .int v5)] [] h := by
  unfold f_L_case3 at e
  refine z_aload_n E 1 dL_law_496 rfl ?_
  obtain ⟨_, e1, e⟩ := ob e
  obtain ⟨p2, e3, e⟩ := ob e
  refine z_kR2 (st := []) (av := [.ref v1]) E k n (z_rV (st := []) (av := []) E Y_X9_noteCount k_L_170 (ci := 11) rfl (c_X9_noteCount (z_El E) e3) dL_law_497 e1 rfl rfl (by decide) (by decide) (Nat.le_trans (zk (k := k) (a := 0) hk (by decide)) hKB) (Nat.le_trans (zk (k := n) (a := 0) hn (by decide)) hNB) (Nat.zero_le _)) rfl rfl rfl ?_
  refine z_aload_n E 2 dL_law_500 rfl ?_
  obtain ⟨_, e4, e⟩ := ob e
  obtain ⟨p5, e6, e⟩ := ob e
  refine z_kR2 (st := [.int p2]) (av := [.ref v2]) E k n (z_rV (st := [.int p2]) (av := []) E Y_X10_noteCount k_L_173 (ci := 12) rfl (c_X10_noteCount (z_El E) e6) dL_law_501 e4 rfl rfl (by decide) (by decide) (Nat.le_trans (zk (k := k) (a := 0) hk (by decide)) hKB) (Nat.le_trans (zk (k := n) (a := 0) hn (by decide)) hNB) (Nat.le_of_ble_eq_true rfl)) rfl rfl rfl ?_
  rcases oi e with ⟨c7, e⟩ | ⟨c7, e⟩
  · refine z_icmp_eqT (tgt := 2815) E dL_law_504 rfl c7 ?_
    obtain rfl := Option.some.inj e
    exact z_sub [0, 1, 2, 3, 4, 5] rfl (z_wide (zk (k := k) (a := 0) hk (by decide)) (zk (k := n) (a := 0) hn (by decide)) kk)
  · refine z_icmp_eqF (tgt := 2815) E dL_law_504 rfl c7 ?_
    cases e
noncomputable def f_L_case4 (h : PH) (v0 : Nat) (v1 : Nat) (v2 : Nat) (v3 : Nat) (v4 : Nat) (v5 : Int32) : Option PH :=
  (alI .int h v0 (v5 + (1 : Int32))).bind fun x1 =>
  (f_L_pageOf h v1 x1 v3).bind fun p3 =>
  (alI .int p3.2 v0 (v5 + (1 : Int32))).bind fun x5 =>
  (gd p3.2 v2 12).bind fun _ =>
  (f_X10_pageOf p3.2 v2 x5).bind fun p8 =>
  (gd p8.2 v2 12).bind fun _ =>
  (f_X10_thrown p8.2 v2).bind fun p11 =>
  if p11 = p3.1 then
    if ¬ p3.1 = 0 then
      some p8.2
    else
      (alL p8.2 v3 (0 : Int32)).bind fun x15 =>
      if (lg_cmp x15 p8.1.toInt64) = 0 then
        some p8.2
      else
        none
  else
    none
theorem b_L_case4 {X : PX} (E : z_E X cL_law RL "law" 9 room_1 (some .boolean)) {k n KB NB : Nat} (hk : k + 1 ≤ KB) (hn : n + 6 ≤ NB) (hKB : KB ≤ room_1.cells) (hNB : NB ≤ room_1.slots) {h : PH} {v0 v1 v2 v3 v4 : Nat} {v5 : Int32} {s : PH} (e : f_L_case4 h v0 v1 v2 v3 v4 v5 = some s) (kk : WP X 9 KB NB 2815 [(0, .ref v0), (1, .ref v1), (2, .ref v2), (3, .ref v3), (4, .ref v4), (5, .int v5)] [] s) : WP X 9 k n 509 [(0, .ref v0), (1, .ref v1), (2, .ref v2), (3, .ref v3), (4, .ref v4), (5, .int v5)] [] h := by
  unfold f_L_case4 at e
  refine z_aload_n E 1 dL_law_509 rfl ?_
  refine z_aload_n E 0 dL_law_510 rfl ?_
  refine z_iload E 5 dL_law_511 rfl ?_
  refine z_iconst E dL_law_513 ic_1 ?_
  refine z_iadd E dL_law_514 ?_
  obtain ⟨x1, e2, e⟩ := ob e
  refine z_iald E dL_law_515 e2 ?_
  refine z_aload_n E 3 dL_law_516 rfl ?_
  obtain ⟨p3, e4, e⟩ := ob e
  refine z_kR2 (st := []) (av := [.ref v1, .int x1, .ref v3]) E (k + 1) (n + 6) (z_rSX (st := []) (av := [.ref v1, .int x1, .ref v3]) E Y_L_pageOf k_L_174 (c_L_pageOf (z_El E) e4) dL_law_517 rfl rfl (by decide) (by decide) (Nat.le_trans (zk (k := k) (a := 1) hk (by decide)) hKB) (Nat.le_trans (zk (k := n) (a := 6) hn (by decide)) hNB) (Nat.zero_le _)) rfl rfl rfl ?_
  refine z_istore (lv2 := [(6, .int p3.1), (0, .ref v0), (1, .ref v1), (2, .ref v2), (3, .ref v3), (4, .ref v4), (5, .int v5)]) E dL_law_520 (by decide) rfl ?_
  refine z_aload_n E 3 dL_law_522 rfl ?_
  refine z_aload_n E 1 dL_law_523 rfl ?_
  refine z_iload E 6 dL_law_524 rfl ?_
  refine z_iconst E dL_law_526 ic_1 ?_
  refine z_iadd E dL_law_527 ?_
  obtain ⟨x5, e6, e⟩ := ob e
  refine z_iald E dL_law_528 e6 ?_
  obtain ⟨_, e7, e⟩ := ob e
  obtain ⟨p8, e9, e⟩ := ob e
  refine z_kR2 (st := []) (av := [.ref v2, .int x5]) E (k + 1) (n + 6) (z_rV (st := []) (av := [.int x5]) E Y_X10_pageOf k_L_177 (ci := 12) rfl (c_X10_pageOf (z_El E) e9) dL_law_529 e7 rfl rfl (by decide) (by decide) (Nat.le_trans (zk (k := k) (a := 1) hk (by decide)) hKB) (Nat.le_trans (zk (k := n) (a := 6) hn (by decide)) hNB) (Nat.zero_le _)) rfl rfl rfl ?_
  refine z_istore (lv2 := [(7, .int p8.1), (6, .int p3.1), (0, .ref v0), (1, .ref v1), (2, .ref v2), (3, .ref v3), (4, .ref v4), (5, .int v5)]) E dL_law_532 (by decide) rfl ?_
  refine z_aload_n E 4 dL_law_534 rfl ?_
  obtain ⟨_, e10, e⟩ := ob e
  obtain ⟨p11, e12, e⟩ := ob e
  refine z_kR2 (st := []) (av := [.ref v2]) E (k + 1) (n + 6) (z_rV (st := []) (av := []) E Y_X10_thrown k_L_161 (ci := 12) rfl (c_X10_thrown (z_El E) e12) dL_law_535 e10 rfl rfl (by decide) (by decide) (Nat.le_trans (zk (k := k) (a := 1) hk (by decide)) hKB) (Nat.le_trans (zk (k := n) (a := 6) hn (by decide)) hNB) (Nat.zero_le _)) rfl rfl rfl ?_
  refine z_iload E 1 dL_law_538 rfl ?_
  rcases oi e with ⟨c13, e⟩ | ⟨c13, e⟩
  · refine z_icmp_eqT (tgt := 545) E dL_law_540 rfl c13 ?_
    refine z_iload E 1 dL_law_545 rfl ?_
    rcases oi e with ⟨c14, e⟩ | ⟨c14, e⟩
    · refine z_if_neT (tgt := 562) E dL_law_547 rfl c14 ?_
      refine z_goto (tgt := 2815) E dL_law_562 rfl ?_
      obtain rfl := Option.some.inj e
      exact z_sub [2, 3, 4, 5, 6, 7] rfl (z_wide (zk (k := k) (a := 1) hk (by decide)) (zk (k := n) (a := 6) hn (by decide)) kk)
    · refine z_if_neF (tgt := 562) E dL_law_547 rfl (Classical.not_not.mp c14) ?_
      refine z_aload_n E 5 dL_law_550 rfl ?_
      refine z_iconst E dL_law_551 ic_0 ?_
      obtain ⟨x15, e16, e⟩ := ob e
      refine z_lald E dL_law_552 e16 ?_
      refine z_iload E 0 dL_law_553 rfl ?_
      refine z_i2l (v := p8.1.toInt64) E dL_law_555 rfl ?_
      refine z_lcmp E dL_law_556 ?_
      rcases oi e with ⟨c17, e⟩ | ⟨c17, e⟩
      · refine z_if_eqT (tgt := 562) E dL_law_557 rfl c17 ?_
        refine z_goto (tgt := 2815) E dL_law_562 rfl ?_
        obtain rfl := Option.some.inj e
        exact z_sub [2, 3, 4, 5, 6, 7] rfl (z_wide (zk (k := k) (a := 1) hk (by decide)) (zk (k := n) (a := 6) hn (by decide)) kk)
      · refine z_if_eqF (tgt := 562) E dL_law_557 rfl c17 ?_
        cases e
  · refine z_icmp_eqF (tgt := 545) E dL_law_540 rfl c13 ?_
    cases e
noncomputable def f_L_case5 (h : PH) (v0 : Nat) (v1 : Nat) (v2 : Nat) (v3 : Nat) (v4 : Nat) (v5 : Int32) : Option PH :=
  (alI .int h v0 (v5 + (1 : Int32))).bind fun x1 =>
  (f_L_weightOf h v1 x1 v3).bind fun p3 =>
  (alI .int p3.2 v0 (v5 + (1 : Int32))).bind fun x5 =>
  (gd p3.2 v2 12).bind fun _ =>
  (f_X10_weightOf p3.2 v2 x5).bind fun p8 =>
  (gd p8.2 v2 12).bind fun _ =>
  (f_X10_thrown p8.2 v2).bind fun p11 =>
  if p11 = p3.1 then
    if ¬ p3.1 = 0 then
      some p8.2
    else
      (alL p8.2 v3 (0 : Int32)).bind fun x15 =>
      if (lg_cmp x15 p8.1.toInt64) = 0 then
        some p8.2
      else
        none
  else
    none
theorem b_L_case5 {X : PX} (E : z_E X cL_law RL "law" 9 room_1 (some .boolean)) {k n KB NB : Nat} (hk : k + 1 ≤ KB) (hn : n + 6 ≤ NB) (hKB : KB ≤ room_1.cells) (hNB : NB ≤ room_1.slots) {h : PH} {v0 v1 v2 v3 v4 : Nat} {v5 : Int32} {s : PH} (e : f_L_case5 h v0 v1 v2 v3 v4 v5 = some s) (kk : WP X 9 KB NB 2815 [(0, .ref v0), (1, .ref v1), (2, .ref v2), (3, .ref v3), (4, .ref v4), (5, .int v5)] [] s) : WP X 9 k n 565 [(0, .ref v0), (1, .ref v1), (2, .ref v2), (3, .ref v3), (4, .ref v4), (5, .int v5)] [] h := by
  unfold f_L_case5 at e
  refine z_aload_n E 1 dL_law_565 rfl ?_
  refine z_aload_n E 0 dL_law_566 rfl ?_
  refine z_iload E 5 dL_law_567 rfl ?_
  refine z_iconst E dL_law_569 ic_1 ?_
  refine z_iadd E dL_law_570 ?_
  obtain ⟨x1, e2, e⟩ := ob e
  refine z_iald E dL_law_571 e2 ?_
  refine z_aload_n E 3 dL_law_572 rfl ?_
  obtain ⟨p3, e4, e⟩ := ob e
  refine z_kR2 (st := []) (av := [.ref v1, .int x1, .ref v3]) E (k + 1) (n + 6) (z_rSX (st := []) (av := [.ref v1, .int x1, .ref v3]) E Y_L_weightOf k_L_178 (c_L_weightOf (z_El E) e4) dL_law_573 rfl rfl (by decide) (by decide) (Nat.le_trans (zk (k := k) (a := 1) hk (by decide)) hKB) (Nat.le_trans (zk (k := n) (a := 6) hn (by decide)) hNB) (Nat.zero_le _)) rfl rfl rfl ?_
  refine z_istore (lv2 := [(6, .int p3.1), (0, .ref v0), (1, .ref v1), (2, .ref v2), (3, .ref v3), (4, .ref v4), (5, .int v5)]) E dL_law_576 (by decide) rfl ?_
  refine z_aload_n E 3 dL_law_578 rfl ?_
  refine z_aload_n E 1 dL_law_579 rfl ?_
  refine z_iload E 6 dL_law_580 rfl ?_
  refine z_iconst E dL_law_582 ic_1 ?_
  refine z_iadd E dL_law_583 ?_
  obtain ⟨x5, e6, e⟩ := ob e
  refine z_iald E dL_law_584 e6 ?_
  obtain ⟨_, e7, e⟩ := ob e
  obtain ⟨p8, e9, e⟩ := ob e
  refine z_kR2 (st := []) (av := [.ref v2, .int x5]) E (k + 1) (n + 6) (z_rV (st := []) (av := [.int x5]) E Y_X10_weightOf k_L_180 (ci := 12) rfl (c_X10_weightOf (z_El E) e9) dL_law_585 e7 rfl rfl (by decide) (by decide) (Nat.le_trans (zk (k := k) (a := 1) hk (by decide)) hKB) (Nat.le_trans (zk (k := n) (a := 6) hn (by decide)) hNB) (Nat.zero_le _)) rfl rfl rfl ?_
  refine z_istore (lv2 := [(7, .int p8.1), (6, .int p3.1), (0, .ref v0), (1, .ref v1), (2, .ref v2), (3, .ref v3), (4, .ref v4), (5, .int v5)]) E dL_law_588 (by decide) rfl ?_
  refine z_aload_n E 4 dL_law_590 rfl ?_
  obtain ⟨_, e10, e⟩ := ob e
  obtain ⟨p11, e12, e⟩ := ob e
  refine z_kR2 (st := []) (av := [.ref v2]) E (k + 1) (n + 6) (z_rV (st := []) (av := []) E Y_X10_thrown k_L_161 (ci := 12) rfl (c_X10_thrown (z_El E) e12) dL_law_591 e10 rfl rfl (by decide) (by decide) (Nat.le_trans (zk (k := k) (a := 1) hk (by decide)) hKB) (Nat.le_trans (zk (k := n) (a := 6) hn (by decide)) hNB) (Nat.zero_le _)) rfl rfl rfl ?_
  refine z_iload E 1 dL_law_594 rfl ?_
  rcases oi e with ⟨c13, e⟩ | ⟨c13, e⟩
  · refine z_icmp_eqT (tgt := 601) E dL_law_596 rfl c13 ?_
    refine z_iload E 1 dL_law_601 rfl ?_
    rcases oi e with ⟨c14, e⟩ | ⟨c14, e⟩
    · refine z_if_neT (tgt := 618) E dL_law_603 rfl c14 ?_
      refine z_goto (tgt := 2815) E dL_law_618 rfl ?_
      obtain rfl := Option.some.inj e
      exact z_sub [2, 3, 4, 5, 6, 7] rfl (z_wide (zk (k := k) (a := 1) hk (by decide)) (zk (k := n) (a := 6) hn (by decide)) kk)
    · refine z_if_neF (tgt := 618) E dL_law_603 rfl (Classical.not_not.mp c14) ?_
      refine z_aload_n E 5 dL_law_606 rfl ?_
      refine z_iconst E dL_law_607 ic_0 ?_
      obtain ⟨x15, e16, e⟩ := ob e
      refine z_lald E dL_law_608 e16 ?_
      refine z_iload E 0 dL_law_609 rfl ?_
      refine z_i2l (v := p8.1.toInt64) E dL_law_611 rfl ?_
      refine z_lcmp E dL_law_612 ?_
      rcases oi e with ⟨c17, e⟩ | ⟨c17, e⟩
      · refine z_if_eqT (tgt := 618) E dL_law_613 rfl c17 ?_
        refine z_goto (tgt := 2815) E dL_law_618 rfl ?_
        obtain rfl := Option.some.inj e
        exact z_sub [2, 3, 4, 5, 6, 7] rfl (z_wide (zk (k := k) (a := 1) hk (by decide)) (zk (k := n) (a := 6) hn (by decide)) kk)
      · refine z_if_eqF (tgt := 618) E dL_law_613 rfl c17 ?_
        cases e
  · refine z_icmp_eqF (tgt := 601) E dL_law_596 rfl c13 ?_
    cases e
noncomputable def f_L_case6 (h : PH) (v0 : Nat) (v1 : Nat) (v2 : Nat) (v3 : Nat) (v4 : Nat) (v5 : Int32) : Option PH :=
  (alI .int h v0 (v5 + (1 : Int32))).bind fun x1 =>
  (f_L_stateOf h v1 x1 v3).bind fun p3 =>
  (alI .int p3.2 v0 (v5 + (1 : Int32))).bind fun x5 =>
  (gd p3.2 v2 12).bind fun _ =>
  (f_X10_stateOf p3.2 v2 x5).bind fun p8 =>
  (gd p8.2 v2 12).bind fun _ =>
  (f_X10_thrown p8.2 v2).bind fun p11 =>
  if p11 = p3.1 then
    if ¬ p3.1 = 0 then
      some p8.2
    else
      (alL p8.2 v3 (0 : Int32)).bind fun x15 =>
      if (lg_cmp x15 p8.1.toInt64) = 0 then
        some p8.2
      else
        none
  else
    none
theorem b_L_case6 {X : PX} (E : z_E X cL_law RL "law" 9 room_1 (some .boolean)) {k n KB NB : Nat} (hk : k + 1 ≤ KB) (hn : n + 6 ≤ NB) (hKB : KB ≤ room_1.cells) (hNB : NB ≤ room_1.slots) {h : PH} {v0 v1 v2 v3 v4 : Nat} {v5 : Int32} {s : PH} (e : f_L_case6 h v0 v1 v2 v3 v4 v5 = some s) (kk : WP X 9 KB NB 2815 [(0, .ref v0), (1, .ref v1), (2, .ref v2), (3, .ref v3), (4, .ref v4), (5, .int v5)] [] s) : WP X 9 k n 621 [(0, .ref v0), (1, .ref v1), (2, .ref v2), (3, .ref v3), (4, .ref v4), (5, .int v5)] [] h := by
  unfold f_L_case6 at e
  refine z_aload_n E 1 dL_law_621 rfl ?_
  refine z_aload_n E 0 dL_law_622 rfl ?_
  refine z_iload E 5 dL_law_623 rfl ?_
  refine z_iconst E dL_law_625 ic_1 ?_
  refine z_iadd E dL_law_626 ?_
  obtain ⟨x1, e2, e⟩ := ob e
  refine z_iald E dL_law_627 e2 ?_
  refine z_aload_n E 3 dL_law_628 rfl ?_
  obtain ⟨p3, e4, e⟩ := ob e
  refine z_kR2 (st := []) (av := [.ref v1, .int x1, .ref v3]) E (k + 1) (n + 6) (z_rSX (st := []) (av := [.ref v1, .int x1, .ref v3]) E Y_L_stateOf k_L_181 (c_L_stateOf (z_El E) e4) dL_law_629 rfl rfl (by decide) (by decide) (Nat.le_trans (zk (k := k) (a := 1) hk (by decide)) hKB) (Nat.le_trans (zk (k := n) (a := 6) hn (by decide)) hNB) (Nat.zero_le _)) rfl rfl rfl ?_
  refine z_istore (lv2 := [(6, .int p3.1), (0, .ref v0), (1, .ref v1), (2, .ref v2), (3, .ref v3), (4, .ref v4), (5, .int v5)]) E dL_law_632 (by decide) rfl ?_
  refine z_aload_n E 3 dL_law_634 rfl ?_
  refine z_aload_n E 1 dL_law_635 rfl ?_
  refine z_iload E 6 dL_law_636 rfl ?_
  refine z_iconst E dL_law_638 ic_1 ?_
  refine z_iadd E dL_law_639 ?_
  obtain ⟨x5, e6, e⟩ := ob e
  refine z_iald E dL_law_640 e6 ?_
  obtain ⟨_, e7, e⟩ := ob e
  obtain ⟨p8, e9, e⟩ := ob e
  refine z_kR2 (st := []) (av := [.ref v2, .int x5]) E (k + 1) (n + 6) (z_rV (st := []) (av := [.int x5]) E Y_X10_stateOf k_L_183 (ci := 12) rfl (c_X10_stateOf (z_El E) e9) dL_law_641 e7 rfl rfl (by decide) (by decide) (Nat.le_trans (zk (k := k) (a := 1) hk (by decide)) hKB) (Nat.le_trans (zk (k := n) (a := 6) hn (by decide)) hNB) (Nat.zero_le _)) rfl rfl rfl ?_
  refine z_istore (lv2 := [(7, .int p8.1), (6, .int p3.1), (0, .ref v0), (1, .ref v1), (2, .ref v2), (3, .ref v3), (4, .ref v4), (5, .int v5)]) E dL_law_644 (by decide) rfl ?_
  refine z_aload_n E 4 dL_law_646 rfl ?_
  obtain ⟨_, e10, e⟩ := ob e
  obtain ⟨p11, e12, e⟩ := ob e
  refine z_kR2 (st := []) (av := [.ref v2]) E (k + 1) (n + 6) (z_rV (st := []) (av := []) E Y_X10_thrown k_L_161 (ci := 12) rfl (c_X10_thrown (z_El E) e12) dL_law_647 e10 rfl rfl (by decide) (by decide) (Nat.le_trans (zk (k := k) (a := 1) hk (by decide)) hKB) (Nat.le_trans (zk (k := n) (a := 6) hn (by decide)) hNB) (Nat.zero_le _)) rfl rfl rfl ?_
  refine z_iload E 1 dL_law_650 rfl ?_
  rcases oi e with ⟨c13, e⟩ | ⟨c13, e⟩
  · refine z_icmp_eqT (tgt := 657) E dL_law_652 rfl c13 ?_
    refine z_iload E 1 dL_law_657 rfl ?_
    rcases oi e with ⟨c14, e⟩ | ⟨c14, e⟩
    · refine z_if_neT (tgt := 674) E dL_law_659 rfl c14 ?_
      refine z_goto (tgt := 2815) E dL_law_674 rfl ?_
      obtain rfl := Option.some.inj e
      exact z_sub [2, 3, 4, 5, 6, 7] rfl (z_wide (zk (k := k) (a := 1) hk (by decide)) (zk (k := n) (a := 6) hn (by decide)) kk)
    · refine z_if_neF (tgt := 674) E dL_law_659 rfl (Classical.not_not.mp c14) ?_
      refine z_aload_n E 5 dL_law_662 rfl ?_
      refine z_iconst E dL_law_663 ic_0 ?_
      obtain ⟨x15, e16, e⟩ := ob e
      refine z_lald E dL_law_664 e16 ?_
      refine z_iload E 0 dL_law_665 rfl ?_
      refine z_i2l (v := p8.1.toInt64) E dL_law_667 rfl ?_
      refine z_lcmp E dL_law_668 ?_
      rcases oi e with ⟨c17, e⟩ | ⟨c17, e⟩
      · refine z_if_eqT (tgt := 674) E dL_law_669 rfl c17 ?_
        refine z_goto (tgt := 2815) E dL_law_674 rfl ?_
        obtain rfl := Option.some.inj e
        exact z_sub [2, 3, 4, 5, 6, 7] rfl (z_wide (zk (k := k) (a := 1) hk (by decide)) (zk (k := n) (a := 6) hn (by decide)) kk)
      · refine z_if_eqF (tgt := 674) E dL_law_669 rfl c17 ?_
        cases e
  · refine z_icmp_eqF (tgt := 657) E dL_law_652 rfl c13 ?_
    cases e
noncomputable def f_L_case7 (h : PH) (v0 : Nat) (v1 : Nat) (v2 : Nat) (v3 : Nat) (v4 : Nat) (v5 : Int32) : Option PH :=
  (alI .int h v0 (v5 + (1 : Int32))).bind fun x1 =>
  (f_L_citedBy h v1 x1 v3).bind fun p3 =>
  (alI .int p3.2 v0 (v5 + (1 : Int32))).bind fun x5 =>
  (gd p3.2 v2 12).bind fun _ =>
  (f_X10_citedBy p3.2 v2 x5).bind fun p8 =>
  (gd p8.2 v2 12).bind fun _ =>
  (f_X10_thrown p8.2 v2).bind fun p11 =>
  if p11 = p3.1 then
    if ¬ p3.1 = 0 then
      some p8.2
    else
      (alL p8.2 v3 (0 : Int32)).bind fun x15 =>
      if (lg_cmp x15 p8.1.toInt64) = 0 then
        some p8.2
      else
        none
  else
    none
theorem b_L_case7 {X : PX} (E : z_E X cL_law RL "law" 9 room_1 (some .boolean)) {k n KB NB : Nat} (hk : k + 1 ≤ KB) (hn : n + 6 ≤ NB) (hKB : KB ≤ room_1.cells) (hNB : NB ≤ room_1.slots) {h : PH} {v0 v1 v2 v3 v4 : Nat} {v5 : Int32} {s : PH} (e : f_L_case7 h v0 v1 v2 v3 v4 v5 = some s) (kk : WP X 9 KB NB 2815 [(0, .ref v0), (1, .ref v1), (2, .ref v2), (3, .ref v3), (4, .ref v4), (5, .int v5)] [] s) : WP X 9 k n 677 [(0, .ref v0), (1, .ref v1), (2, .ref v2), (3, .ref v3), (4, .ref v4), (5, .int v5)] [] h := by
  unfold f_L_case7 at e
  refine z_aload_n E 1 dL_law_677 rfl ?_
  refine z_aload_n E 0 dL_law_678 rfl ?_
  refine z_iload E 5 dL_law_679 rfl ?_
  refine z_iconst E dL_law_681 ic_1 ?_
  refine z_iadd E dL_law_682 ?_
  obtain ⟨x1, e2, e⟩ := ob e
  refine z_iald E dL_law_683 e2 ?_
  refine z_aload_n E 3 dL_law_684 rfl ?_
  obtain ⟨p3, e4, e⟩ := ob e
  refine z_kR2 (st := []) (av := [.ref v1, .int x1, .ref v3]) E (k + 1) (n + 6) (z_rSX (st := []) (av := [.ref v1, .int x1, .ref v3]) E Y_L_citedBy k_L_184 (c_L_citedBy (z_El E) e4) dL_law_685 rfl rfl (by decide) (by decide) (Nat.le_trans (zk (k := k) (a := 1) hk (by decide)) hKB) (Nat.le_trans (zk (k := n) (a := 6) hn (by decide)) hNB) (Nat.zero_le _)) rfl rfl rfl ?_
  refine z_istore (lv2 := [(6, .int p3.1), (0, .ref v0), (1, .ref v1), (2, .ref v2), (3, .ref v3), (4, .ref v4), (5, .int v5)]) E dL_law_688 (by decide) rfl ?_
  refine z_aload_n E 3 dL_law_690 rfl ?_
  refine z_aload_n E 1 dL_law_691 rfl ?_
  refine z_iload E 6 dL_law_692 rfl ?_
  refine z_iconst E dL_law_694 ic_1 ?_
  refine z_iadd E dL_law_695 ?_
  obtain ⟨x5, e6, e⟩ := ob e
  refine z_iald E dL_law_696 e6 ?_
  obtain ⟨_, e7, e⟩ := ob e
  obtain ⟨p8, e9, e⟩ := ob e
  refine z_kR2 (st := []) (av := [.ref v2, .int x5]) E (k + 1) (n + 6) (z_rV (st := []) (av := [.int x5]) E Y_X10_citedBy k_L_186 (ci := 12) rfl (c_X10_citedBy (z_El E) e9) dL_law_697 e7 rfl rfl (by decide) (by decide) (Nat.le_trans (zk (k := k) (a := 1) hk (by decide)) hKB) (Nat.le_trans (zk (k := n) (a := 6) hn (by decide)) hNB) (Nat.zero_le _)) rfl rfl rfl ?_
  refine z_istore (lv2 := [(7, .int p8.1), (6, .int p3.1), (0, .ref v0), (1, .ref v1), (2, .ref v2), (3, .ref v3), (4, .ref v4), (5, .int v5)]) E dL_law_700 (by decide) rfl ?_
  refine z_aload_n E 4 dL_law_702 rfl ?_
  obtain ⟨_, e10, e⟩ := ob e
  obtain ⟨p11, e12, e⟩ := ob e
  refine z_kR2 (st := []) (av := [.ref v2]) E (k + 1) (n + 6) (z_rV (st := []) (av := []) E Y_X10_thrown k_L_161 (ci := 12) rfl (c_X10_thrown (z_El E) e12) dL_law_703 e10 rfl rfl (by decide) (by decide) (Nat.le_trans (zk (k := k) (a := 1) hk (by decide)) hKB) (Nat.le_trans (zk (k := n) (a := 6) hn (by decide)) hNB) (Nat.zero_le _)) rfl rfl rfl ?_
  refine z_iload E 1 dL_law_706 rfl ?_
  rcases oi e with ⟨c13, e⟩ | ⟨c13, e⟩
  · refine z_icmp_eqT (tgt := 713) E dL_law_708 rfl c13 ?_
    refine z_iload E 1 dL_law_713 rfl ?_
    rcases oi e with ⟨c14, e⟩ | ⟨c14, e⟩
    · refine z_if_neT (tgt := 730) E dL_law_715 rfl c14 ?_
      refine z_goto (tgt := 2815) E dL_law_730 rfl ?_
      obtain rfl := Option.some.inj e
      exact z_sub [2, 3, 4, 5, 6, 7] rfl (z_wide (zk (k := k) (a := 1) hk (by decide)) (zk (k := n) (a := 6) hn (by decide)) kk)
    · refine z_if_neF (tgt := 730) E dL_law_715 rfl (Classical.not_not.mp c14) ?_
      refine z_aload_n E 5 dL_law_718 rfl ?_
      refine z_iconst E dL_law_719 ic_0 ?_
      obtain ⟨x15, e16, e⟩ := ob e
      refine z_lald E dL_law_720 e16 ?_
      refine z_iload E 0 dL_law_721 rfl ?_
      refine z_i2l (v := p8.1.toInt64) E dL_law_723 rfl ?_
      refine z_lcmp E dL_law_724 ?_
      rcases oi e with ⟨c17, e⟩ | ⟨c17, e⟩
      · refine z_if_eqT (tgt := 730) E dL_law_725 rfl c17 ?_
        refine z_goto (tgt := 2815) E dL_law_730 rfl ?_
        obtain rfl := Option.some.inj e
        exact z_sub [2, 3, 4, 5, 6, 7] rfl (z_wide (zk (k := k) (a := 1) hk (by decide)) (zk (k := n) (a := 6) hn (by decide)) kk)
      · refine z_if_eqF (tgt := 730) E dL_law_725 rfl c17 ?_
        cases e
  · refine z_icmp_eqF (tgt := 713) E dL_law_708 rfl c13 ?_
    cases e
noncomputable def f_L_case8 (h : PH) (v0 : Nat) (v1 : Nat) (v2 : Nat) (v3 : Nat) (v4 : Nat) (v5 : Int32) : Option PH :=
  (alI .int h v0 (v5 + (1 : Int32))).bind fun x1 =>
  (alI .int h v0 (v5 + (2 : Int32))).bind fun x3 =>
  (f_L_doesCite h v1 x1 x3 v3).bind fun p5 =>
  (alI .int p5.2 v0 (v5 + (1 : Int32))).bind fun x7 =>
  (alI .int p5.2 v0 (v5 + (2 : Int32))).bind fun x9 =>
  (gd p5.2 v2 12).bind fun _ =>
  (f_X10_doesCite p5.2 v2 x7 x9).bind fun p12 =>
  (gd p12.2 v2 12).bind fun _ =>
  (f_X10_thrown p12.2 v2).bind fun p15 =>
  if p15 = p5.1 then
    if ¬ p5.1 = 0 then
      some p12.2
    else
      (alL p12.2 v3 (0 : Int32)).bind fun x19 =>
      if p12.1 = false then
        if (lg_cmp x19 (0 : Int64)) = 0 then
          some p12.2
        else
          none
      else
        if (lg_cmp x19 (1 : Int64)) = 0 then
          some p12.2
        else
          none
  else
    none
theorem b_L_case8 {X : PX} (E : z_E X cL_law RL "law" 9 room_1 (some .boolean)) {k n KB NB : Nat} (hk : k + 2 ≤ KB) (hn : n + 12 ≤ NB) (hKB : KB ≤ room_1.cells) (hNB : NB ≤ room_1.slots) {h : PH} {v0 v1 v2 v3 v4 : Nat} {v5 : Int32} {s : PH} (e : f_L_case8 h v0 v1 v2 v3 v4 v5 = some s) (kk : WP X 9 KB NB 2815 [(0, .ref v0), (1, .ref v1), (2, .ref v2), (3, .ref v3), (4, .ref v4), (5, .int v5)] [] s) : WP X 9 k n 733 [(0, .ref v0), (1, .ref v1), (2, .ref v2), (3, .ref v3), (4, .ref v4), (5, .int v5)] [] h := by
  unfold f_L_case8 at e
  refine z_aload_n E 1 dL_law_733 rfl ?_
  refine z_aload_n E 0 dL_law_734 rfl ?_
  refine z_iload E 5 dL_law_735 rfl ?_
  refine z_iconst E dL_law_737 ic_1 ?_
  refine z_iadd E dL_law_738 ?_
  obtain ⟨x1, e2, e⟩ := ob e
  refine z_iald E dL_law_739 e2 ?_
  refine z_aload_n E 0 dL_law_740 rfl ?_
  refine z_iload E 5 dL_law_741 rfl ?_
  refine z_iconst E dL_law_743 ic_2 ?_
  refine z_iadd E dL_law_744 ?_
  obtain ⟨x3, e4, e⟩ := ob e
  refine z_iald E dL_law_745 e4 ?_
  refine z_aload_n E 3 dL_law_746 rfl ?_
  obtain ⟨p5, e6, e⟩ := ob e
  refine z_kR2 (st := []) (av := [.ref v1, .int x1, .int x3, .ref v3]) E (k + 2) (n + 12) (z_rSX (st := []) (av := [.ref v1, .int x1, .int x3, .ref v3]) E Y_L_doesCite k_L_187 (c_L_doesCite (z_El E) e6) dL_law_747 rfl rfl (by decide) (by decide) (Nat.le_trans (zk (k := k) (a := 2) hk (by decide)) hKB) (Nat.le_trans (zk (k := n) (a := 12) hn (by decide)) hNB) (Nat.zero_le _)) rfl rfl rfl ?_
  refine z_istore (lv2 := [(6, .int p5.1), (0, .ref v0), (1, .ref v1), (2, .ref v2), (3, .ref v3), (4, .ref v4), (5, .int v5)]) E dL_law_750 (by decide) rfl ?_
  refine z_aload_n E 3 dL_law_752 rfl ?_
  refine z_aload_n E 1 dL_law_753 rfl ?_
  refine z_iload E 6 dL_law_754 rfl ?_
  refine z_iconst E dL_law_756 ic_1 ?_
  refine z_iadd E dL_law_757 ?_
  obtain ⟨x7, e8, e⟩ := ob e
  refine z_iald E dL_law_758 e8 ?_
  refine z_aload_n E 1 dL_law_759 rfl ?_
  refine z_iload E 6 dL_law_760 rfl ?_
  refine z_iconst E dL_law_762 ic_2 ?_
  refine z_iadd E dL_law_763 ?_
  obtain ⟨x9, e10, e⟩ := ob e
  refine z_iald E dL_law_764 e10 ?_
  obtain ⟨_, e11, e⟩ := ob e
  obtain ⟨p12, e13, e⟩ := ob e
  refine z_kR2 (st := []) (av := [.ref v2, .int x7, .int x9]) E (k + 2) (n + 12) (z_rV (st := []) (av := [.int x7, .int x9]) E Y_X10_doesCite k_L_189 (ci := 12) rfl (c_X10_doesCite (z_El E) e13) dL_law_765 e11 rfl rfl (by decide) (by decide) (Nat.le_trans (zk (k := k) (a := 2) hk (by decide)) hKB) (Nat.le_trans (zk (k := n) (a := 12) hn (by decide)) hNB) (Nat.zero_le _)) rfl rfl rfl ?_
  refine z_istore (lv2 := [(7, .int (zb p12.1)), (6, .int p5.1), (0, .ref v0), (1, .ref v1), (2, .ref v2), (3, .ref v3), (4, .ref v4), (5, .int v5)]) E dL_law_768 (by decide) rfl ?_
  refine z_aload_n E 4 dL_law_770 rfl ?_
  obtain ⟨_, e14, e⟩ := ob e
  obtain ⟨p15, e16, e⟩ := ob e
  refine z_kR2 (st := []) (av := [.ref v2]) E (k + 2) (n + 12) (z_rV (st := []) (av := []) E Y_X10_thrown k_L_161 (ci := 12) rfl (c_X10_thrown (z_El E) e16) dL_law_771 e14 rfl rfl (by decide) (by decide) (Nat.le_trans (zk (k := k) (a := 2) hk (by decide)) hKB) (Nat.le_trans (zk (k := n) (a := 12) hn (by decide)) hNB) (Nat.zero_le _)) rfl rfl rfl ?_
  refine z_iload E 1 dL_law_774 rfl ?_
  rcases oi e with ⟨c17, e⟩ | ⟨c17, e⟩
  · refine z_icmp_eqT (tgt := 781) E dL_law_776 rfl c17 ?_
    refine z_iload E 1 dL_law_781 rfl ?_
    rcases oi e with ⟨c18, e⟩ | ⟨c18, e⟩
    · refine z_if_neT (tgt := 805) E dL_law_783 rfl c18 ?_
      refine z_goto (tgt := 2815) E dL_law_805 rfl ?_
      obtain rfl := Option.some.inj e
      exact z_sub [2, 3, 4, 5, 6, 7] rfl (z_wide (zk (k := k) (a := 2) hk (by decide)) (zk (k := n) (a := 12) hn (by decide)) kk)
    · refine z_if_neF (tgt := 805) E dL_law_783 rfl (Classical.not_not.mp c18) ?_
      refine z_aload_n E 5 dL_law_786 rfl ?_
      refine z_iconst E dL_law_787 ic_0 ?_
      obtain ⟨x19, e20, e⟩ := ob e
      refine z_lald E dL_law_788 e20 ?_
      refine z_iload E 0 dL_law_789 rfl ?_
      rcases oi e with ⟨c21, e⟩ | ⟨c21, e⟩
      · refine z_if_eqT (tgt := 798) E dL_law_791 rfl (zb_f c21) ?_
        refine z_lconst (v := (0 : Int64)) E dL_law_798 rfl ?_
        refine z_lcmp E dL_law_799 ?_
        rcases oi e with ⟨c22, e⟩ | ⟨c22, e⟩
        · refine z_if_eqT (tgt := 805) E dL_law_800 rfl c22 ?_
          refine z_goto (tgt := 2815) E dL_law_805 rfl ?_
          obtain rfl := Option.some.inj e
          exact z_sub [2, 3, 4, 5, 6, 7] rfl (z_wide (zk (k := k) (a := 2) hk (by decide)) (zk (k := n) (a := 12) hn (by decide)) kk)
        · refine z_if_eqF (tgt := 805) E dL_law_800 rfl c22 ?_
          cases e
      · refine z_if_eqF (tgt := 798) E dL_law_791 rfl (zb_nf c21) ?_
        refine z_lconst (v := (1 : Int64)) E dL_law_794 rfl ?_
        refine z_goto (tgt := 799) E dL_law_795 rfl ?_
        refine z_lcmp E dL_law_799 ?_
        rcases oi e with ⟨c23, e⟩ | ⟨c23, e⟩
        · refine z_if_eqT (tgt := 805) E dL_law_800 rfl c23 ?_
          refine z_goto (tgt := 2815) E dL_law_805 rfl ?_
          obtain rfl := Option.some.inj e
          exact z_sub [2, 3, 4, 5, 6, 7] rfl (z_wide (zk (k := k) (a := 2) hk (by decide)) (zk (k := n) (a := 12) hn (by decide)) kk)
        · refine z_if_eqF (tgt := 805) E dL_law_800 rfl c23 ?_
          cases e
  · refine z_icmp_eqF (tgt := 781) E dL_law_776 rfl c17 ?_
    cases e
noncomputable def f_L_case9 (h : PH) (v0 : Nat) (v1 : Nat) (v2 : Nat) (v3 : Nat) (v4 : Nat) (v5 : Int32) : Option PH :=
  (alI .int h v0 (v5 + (1 : Int32))).bind fun x1 =>
  (alI .int h v0 (v5 + (2 : Int32))).bind fun x3 =>
  (f_L_reaches h v1 x1 x3 v3).bind fun p5 =>
  (alI .int p5.2 v0 (v5 + (1 : Int32))).bind fun x7 =>
  (alI .int p5.2 v0 (v5 + (2 : Int32))).bind fun x9 =>
  (gd p5.2 v2 12).bind fun _ =>
  (f_X10_reaches p5.2 v2 x7 x9).bind fun p12 =>
  (gd p12.2 v2 12).bind fun _ =>
  (f_X10_thrown p12.2 v2).bind fun p15 =>
  if p15 = p5.1 then
    if ¬ p5.1 = 0 then
      some p12.2
    else
      (alL p12.2 v3 (0 : Int32)).bind fun x19 =>
      if p12.1 = false then
        if (lg_cmp x19 (0 : Int64)) = 0 then
          some p12.2
        else
          none
      else
        if (lg_cmp x19 (1 : Int64)) = 0 then
          some p12.2
        else
          none
  else
    none
theorem b_L_case9 {X : PX} (E : z_E X cL_law RL "law" 9 room_1 (some .boolean)) {k n KB NB : Nat} (hk : k + 2 ≤ KB) (hn : n + 12 ≤ NB) (hKB : KB ≤ room_1.cells) (hNB : NB ≤ room_1.slots) {h : PH} {v0 v1 v2 v3 v4 : Nat} {v5 : Int32} {s : PH} (e : f_L_case9 h v0 v1 v2 v3 v4 v5 = some s) (kk : WP X 9 KB NB 2815 [(0, .ref v0), (1, .ref v1), (2, .ref v2), (3, .ref v3), (4, .ref v4), (5, .int v5)] [] s) : WP X 9 k n 808 [(0, .ref v0), (1, .ref v1), (2, .ref v2), (3, .ref v3), (4, .ref v4), (5, .int v5)] [] h := by
  unfold f_L_case9 at e
  refine z_aload_n E 1 dL_law_808 rfl ?_
  refine z_aload_n E 0 dL_law_809 rfl ?_
  refine z_iload E 5 dL_law_810 rfl ?_
  refine z_iconst E dL_law_812 ic_1 ?_
  refine z_iadd E dL_law_813 ?_
  obtain ⟨x1, e2, e⟩ := ob e
  refine z_iald E dL_law_814 e2 ?_
  refine z_aload_n E 0 dL_law_815 rfl ?_
  refine z_iload E 5 dL_law_816 rfl ?_
  refine z_iconst E dL_law_818 ic_2 ?_
  refine z_iadd E dL_law_819 ?_
  obtain ⟨x3, e4, e⟩ := ob e
  refine z_iald E dL_law_820 e4 ?_
  refine z_aload_n E 3 dL_law_821 rfl ?_
  obtain ⟨p5, e6, e⟩ := ob e
  refine z_kR2 (st := []) (av := [.ref v1, .int x1, .int x3, .ref v3]) E (k + 2) (n + 12) (z_rSX (st := []) (av := [.ref v1, .int x1, .int x3, .ref v3]) E Y_L_reaches k_L_190 (c_L_reaches (z_El E) e6) dL_law_822 rfl rfl (by decide) (by decide) (Nat.le_trans (zk (k := k) (a := 2) hk (by decide)) hKB) (Nat.le_trans (zk (k := n) (a := 12) hn (by decide)) hNB) (Nat.zero_le _)) rfl rfl rfl ?_
  refine z_istore (lv2 := [(6, .int p5.1), (0, .ref v0), (1, .ref v1), (2, .ref v2), (3, .ref v3), (4, .ref v4), (5, .int v5)]) E dL_law_825 (by decide) rfl ?_
  refine z_aload_n E 3 dL_law_827 rfl ?_
  refine z_aload_n E 1 dL_law_828 rfl ?_
  refine z_iload E 6 dL_law_829 rfl ?_
  refine z_iconst E dL_law_831 ic_1 ?_
  refine z_iadd E dL_law_832 ?_
  obtain ⟨x7, e8, e⟩ := ob e
  refine z_iald E dL_law_833 e8 ?_
  refine z_aload_n E 1 dL_law_834 rfl ?_
  refine z_iload E 6 dL_law_835 rfl ?_
  refine z_iconst E dL_law_837 ic_2 ?_
  refine z_iadd E dL_law_838 ?_
  obtain ⟨x9, e10, e⟩ := ob e
  refine z_iald E dL_law_839 e10 ?_
  obtain ⟨_, e11, e⟩ := ob e
  obtain ⟨p12, e13, e⟩ := ob e
  refine z_kR2 (st := []) (av := [.ref v2, .int x7, .int x9]) E (k + 2) (n + 12) (z_rV (st := []) (av := [.int x7, .int x9]) E Y_X10_reaches k_L_192 (ci := 12) rfl (c_X10_reaches (z_El E) e13) dL_law_840 e11 rfl rfl (by decide) (by decide) (Nat.le_trans (zk (k := k) (a := 2) hk (by decide)) hKB) (Nat.le_trans (zk (k := n) (a := 12) hn (by decide)) hNB) (Nat.zero_le _)) rfl rfl rfl ?_
  refine z_istore (lv2 := [(7, .int (zb p12.1)), (6, .int p5.1), (0, .ref v0), (1, .ref v1), (2, .ref v2), (3, .ref v3), (4, .ref v4), (5, .int v5)]) E dL_law_843 (by decide) rfl ?_
  refine z_aload_n E 4 dL_law_845 rfl ?_
  obtain ⟨_, e14, e⟩ := ob e
  obtain ⟨p15, e16, e⟩ := ob e
  refine z_kR2 (st := []) (av := [.ref v2]) E (k + 2) (n + 12) (z_rV (st := []) (av := []) E Y_X10_thrown k_L_161 (ci := 12) rfl (c_X10_thrown (z_El E) e16) dL_law_846 e14 rfl rfl (by decide) (by decide) (Nat.le_trans (zk (k := k) (a := 2) hk (by decide)) hKB) (Nat.le_trans (zk (k := n) (a := 12) hn (by decide)) hNB) (Nat.zero_le _)) rfl rfl rfl ?_
  refine z_iload E 1 dL_law_849 rfl ?_
  rcases oi e with ⟨c17, e⟩ | ⟨c17, e⟩
  · refine z_icmp_eqT (tgt := 856) E dL_law_851 rfl c17 ?_
    refine z_iload E 1 dL_law_856 rfl ?_
    rcases oi e with ⟨c18, e⟩ | ⟨c18, e⟩
    · refine z_if_neT (tgt := 880) E dL_law_858 rfl c18 ?_
      refine z_goto (tgt := 2815) E dL_law_880 rfl ?_
      obtain rfl := Option.some.inj e
      exact z_sub [2, 3, 4, 5, 6, 7] rfl (z_wide (zk (k := k) (a := 2) hk (by decide)) (zk (k := n) (a := 12) hn (by decide)) kk)
    · refine z_if_neF (tgt := 880) E dL_law_858 rfl (Classical.not_not.mp c18) ?_
      refine z_aload_n E 5 dL_law_861 rfl ?_
      refine z_iconst E dL_law_862 ic_0 ?_
      obtain ⟨x19, e20, e⟩ := ob e
      refine z_lald E dL_law_863 e20 ?_
      refine z_iload E 0 dL_law_864 rfl ?_
      rcases oi e with ⟨c21, e⟩ | ⟨c21, e⟩
      · refine z_if_eqT (tgt := 873) E dL_law_866 rfl (zb_f c21) ?_
        refine z_lconst (v := (0 : Int64)) E dL_law_873 rfl ?_
        refine z_lcmp E dL_law_874 ?_
        rcases oi e with ⟨c22, e⟩ | ⟨c22, e⟩
        · refine z_if_eqT (tgt := 880) E dL_law_875 rfl c22 ?_
          refine z_goto (tgt := 2815) E dL_law_880 rfl ?_
          obtain rfl := Option.some.inj e
          exact z_sub [2, 3, 4, 5, 6, 7] rfl (z_wide (zk (k := k) (a := 2) hk (by decide)) (zk (k := n) (a := 12) hn (by decide)) kk)
        · refine z_if_eqF (tgt := 880) E dL_law_875 rfl c22 ?_
          cases e
      · refine z_if_eqF (tgt := 873) E dL_law_866 rfl (zb_nf c21) ?_
        refine z_lconst (v := (1 : Int64)) E dL_law_869 rfl ?_
        refine z_goto (tgt := 874) E dL_law_870 rfl ?_
        refine z_lcmp E dL_law_874 ?_
        rcases oi e with ⟨c23, e⟩ | ⟨c23, e⟩
        · refine z_if_eqT (tgt := 880) E dL_law_875 rfl c23 ?_
          refine z_goto (tgt := 2815) E dL_law_880 rfl ?_
          obtain rfl := Option.some.inj e
          exact z_sub [2, 3, 4, 5, 6, 7] rfl (z_wide (zk (k := k) (a := 2) hk (by decide)) (zk (k := n) (a := 12) hn (by decide)) kk)
        · refine z_if_eqF (tgt := 880) E dL_law_875 rfl c23 ?_
          cases e
  · refine z_icmp_eqF (tgt := 856) E dL_law_851 rfl c17 ?_
    cases e
noncomputable def f_L_case10 (h : PH) (v0 : Nat) (v1 : Nat) (v2 : Nat) (v3 : Nat) (v4 : Nat) (v5 : Int32) : Option PH :=
  (gd h v1 11).bind fun _ =>
  (f_X9_circles h v1).bind fun p2 =>
  (gd p2.2 v2 12).bind fun _ =>
  (f_X10_circles p2.2 v2).bind fun p5 =>
  if p2.1 = p5.1 then
    some p5.2
  else
    none
theorem b_L_case10 {X : PX} (E : z_E X cL_law RL "law" 9 room_1 (some .boolean)) {k n KB NB : Nat} (hk : k + 0 ≤ KB) (hn : n + 0 ≤ NB) (hKB : KB ≤ room_1.cells) (hNB : NB ≤ room_1.slots) {h : PH} {v0 v1 v2 v3 v4 : Nat} {v5 : Int32} {s : PH} (e : f_L_case10 h v0 v1 v2 v3 v4 v5 = some s) (kk : WP X 9 KB NB 2815 [(0, .ref v0), (1, .ref v1), (2, .ref v2), (3, .ref v3), (4, .ref v4), (5, .int v5)] [] s) : WP X 9 k n 883 [(0, .ref v0), (1, .ref v1), (2, .ref v2), (3, .ref v3), (4, .ref v4), (5, .int v5)] [] h := by
  unfold f_L_case10 at e
  refine z_aload_n E 1 dL_law_883 rfl ?_
  obtain ⟨_, e1, e⟩ := ob e
  obtain ⟨p2, e3, e⟩ := ob e
  refine z_kR2 (st := []) (av := [.ref v1]) E k n (z_rV (st := []) (av := []) E Y_X9_circles k_L_193 (ci := 11) rfl (c_X9_circles (z_El E) e3) dL_law_884 e1 rfl rfl (by decide) (by decide) (Nat.le_trans (zk (k := k) (a := 0) hk (by decide)) hKB) (Nat.le_trans (zk (k := n) (a := 0) hn (by decide)) hNB) (Nat.zero_le _)) rfl rfl rfl ?_
  refine z_aload_n E 2 dL_law_887 rfl ?_
  obtain ⟨_, e4, e⟩ := ob e
  obtain ⟨p5, e6, e⟩ := ob e
  refine z_kR2 (st := [.int p2.1]) (av := [.ref v2]) E k n (z_rV (st := [.int p2.1]) (av := []) E Y_X10_circles k_L_196 (ci := 12) rfl (c_X10_circles (z_El E) e6) dL_law_888 e4 rfl rfl (by decide) (by decide) (Nat.le_trans (zk (k := k) (a := 0) hk (by decide)) hKB) (Nat.le_trans (zk (k := n) (a := 0) hn (by decide)) hNB) (Nat.le_of_ble_eq_true rfl)) rfl rfl rfl ?_
  rcases oi e with ⟨c7, e⟩ | ⟨c7, e⟩
  · refine z_icmp_eqT (tgt := 2815) E dL_law_891 rfl c7 ?_
    obtain rfl := Option.some.inj e
    exact z_sub [0, 1, 2, 3, 4, 5] rfl (z_wide (zk (k := k) (a := 0) hk (by decide)) (zk (k := n) (a := 0) hn (by decide)) kk)
  · refine z_icmp_eqF (tgt := 2815) E dL_law_891 rfl c7 ?_
    cases e
noncomputable def f_L_case11 (h : PH) (v0 : Nat) (v1 : Nat) (v2 : Nat) (v3 : Nat) (v4 : Nat) (v5 : Int32) : Option PH :=
  (gd h v1 11).bind fun _ =>
  (f_X9_circlesByTable h v1).bind fun p2 =>
  (gd p2.2 v2 12).bind fun _ =>
  (f_X10_circlesByTable p2.2 v2).bind fun p5 =>
  if p2.1 = p5.1 then
    some p5.2
  else
    none
theorem b_L_case11 {X : PX} (E : z_E X cL_law RL "law" 9 room_1 (some .boolean)) {k n KB NB : Nat} (hk : k + 0 ≤ KB) (hn : n + 0 ≤ NB) (hKB : KB ≤ room_1.cells) (hNB : NB ≤ room_1.slots) {h : PH} {v0 v1 v2 v3 v4 : Nat} {v5 : Int32} {s : PH} (e : f_L_case11 h v0 v1 v2 v3 v4 v5 = some s) (kk : WP X 9 KB NB 2815 [(0, .ref v0), (1, .ref v1), (2, .ref v2), (3, .ref v3), (4, .ref v4), (5, .int v5)] [] s) : WP X 9 k n 896 [(0, .ref v0), (1, .ref v1), (2, .ref v2), (3, .ref v3), (4, .ref v4), (5, .int v5)] [] h := by
  unfold f_L_case11 at e
  refine z_aload_n E 1 dL_law_896 rfl ?_
  obtain ⟨_, e1, e⟩ := ob e
  obtain ⟨p2, e3, e⟩ := ob e
  refine z_kR2 (st := []) (av := [.ref v1]) E k n (z_rV (st := []) (av := []) E Y_X9_circlesByTable k_L_197 (ci := 11) rfl (c_X9_circlesByTable (z_El E) e3) dL_law_897 e1 rfl rfl (by decide) (by decide) (Nat.le_trans (zk (k := k) (a := 0) hk (by decide)) hKB) (Nat.le_trans (zk (k := n) (a := 0) hn (by decide)) hNB) (Nat.zero_le _)) rfl rfl rfl ?_
  refine z_aload_n E 2 dL_law_900 rfl ?_
  obtain ⟨_, e4, e⟩ := ob e
  obtain ⟨p5, e6, e⟩ := ob e
  refine z_kR2 (st := [.int p2.1]) (av := [.ref v2]) E k n (z_rV (st := [.int p2.1]) (av := []) E Y_X10_circlesByTable k_L_200 (ci := 12) rfl (c_X10_circlesByTable (z_El E) e6) dL_law_901 e4 rfl rfl (by decide) (by decide) (Nat.le_trans (zk (k := k) (a := 0) hk (by decide)) hKB) (Nat.le_trans (zk (k := n) (a := 0) hn (by decide)) hNB) (Nat.le_of_ble_eq_true rfl)) rfl rfl rfl ?_
  rcases oi e with ⟨c7, e⟩ | ⟨c7, e⟩
  · refine z_icmp_eqT (tgt := 2815) E dL_law_904 rfl c7 ?_
    obtain rfl := Option.some.inj e
    exact z_sub [0, 1, 2, 3, 4, 5] rfl (z_wide (zk (k := k) (a := 0) hk (by decide)) (zk (k := n) (a := 0) hn (by decide)) kk)
  · refine z_icmp_eqF (tgt := 2815) E dL_law_904 rfl c7 ?_
    cases e
noncomputable def f_L_case12 (h : PH) (v0 : Nat) (v1 : Nat) (v2 : Nat) (v3 : Nat) (v4 : Nat) (v5 : Int32) : Option PH :=
  (alI .int h v0 (v5 + (1 : Int32))).bind fun x1 =>
  (f_L_circleSize h v1 x1 v3).bind fun p3 =>
  (alI .int p3.2 v0 (v5 + (1 : Int32))).bind fun x5 =>
  (gd p3.2 v2 12).bind fun _ =>
  (f_X10_circleSize p3.2 v2 x5).bind fun p8 =>
  (gd p8.2 v2 12).bind fun _ =>
  (f_X10_thrown p8.2 v2).bind fun p11 =>
  if p11 = p3.1 then
    if ¬ p3.1 = 0 then
      some p8.2
    else
      (alL p8.2 v3 (0 : Int32)).bind fun x15 =>
      if (lg_cmp x15 p8.1.toInt64) = 0 then
        some p8.2
      else
        none
  else
    none
theorem b_L_case12 {X : PX} (E : z_E X cL_law RL "law" 9 room_1 (some .boolean)) {k n KB NB : Nat} (hk : k + 1 ≤ KB) (hn : n + 6 ≤ NB) (hKB : KB ≤ room_1.cells) (hNB : NB ≤ room_1.slots) {h : PH} {v0 v1 v2 v3 v4 : Nat} {v5 : Int32} {s : PH} (e : f_L_case12 h v0 v1 v2 v3 v4 v5 = some s) (kk : WP X 9 KB NB 2815 [(0, .ref v0), (1, .ref v1), (2, .ref v2), (3, .ref v3), (4, .ref v4), (5, .int v5)] [] s) : WP X 9 k n 909 [(0, .ref v0), (1, .ref v1), (2, .ref v2), (3, .ref v3), (4, .ref v4), (5, .int v5)] [] h := by
  unfold f_L_case12 at e
  refine z_aload_n E 1 dL_law_909 rfl ?_
  refine z_aload_n E 0 dL_law_910 rfl ?_
  refine z_iload E 5 dL_law_911 rfl ?_
  refine z_iconst E dL_law_913 ic_1 ?_
  refine z_iadd E dL_law_914 ?_
  obtain ⟨x1, e2, e⟩ := ob e
  refine z_iald E dL_law_915 e2 ?_
  refine z_aload_n E 3 dL_law_916 rfl ?_
  obtain ⟨p3, e4, e⟩ := ob e
  refine z_kR2 (st := []) (av := [.ref v1, .int x1, .ref v3]) E (k + 1) (n + 6) (z_rSX (st := []) (av := [.ref v1, .int x1, .ref v3]) E Y_L_circleSize k_L_201 (c_L_circleSize (z_El E) e4) dL_law_917 rfl rfl (by decide) (by decide) (Nat.le_trans (zk (k := k) (a := 1) hk (by decide)) hKB) (Nat.le_trans (zk (k := n) (a := 6) hn (by decide)) hNB) (Nat.zero_le _)) rfl rfl rfl ?_
  refine z_istore (lv2 := [(6, .int p3.1), (0, .ref v0), (1, .ref v1), (2, .ref v2), (3, .ref v3), (4, .ref v4), (5, .int v5)]) E dL_law_920 (by decide) rfl ?_
  refine z_aload_n E 3 dL_law_922 rfl ?_
  refine z_aload_n E 1 dL_law_923 rfl ?_
  refine z_iload E 6 dL_law_924 rfl ?_
  refine z_iconst E dL_law_926 ic_1 ?_
  refine z_iadd E dL_law_927 ?_
  obtain ⟨x5, e6, e⟩ := ob e
  refine z_iald E dL_law_928 e6 ?_
  obtain ⟨_, e7, e⟩ := ob e
  obtain ⟨p8, e9, e⟩ := ob e
  refine z_kR2 (st := []) (av := [.ref v2, .int x5]) E (k + 1) (n + 6) (z_rV (st := []) (av := [.int x5]) E Y_X10_circleSize k_L_203 (ci := 12) rfl (c_X10_circleSize (z_El E) e9) dL_law_929 e7 rfl rfl (by decide) (by decide) (Nat.le_trans (zk (k := k) (a := 1) hk (by decide)) hKB) (Nat.le_trans (zk (k := n) (a := 6) hn (by decide)) hNB) (Nat.zero_le _)) rfl rfl rfl ?_
  refine z_istore (lv2 := [(7, .int p8.1), (6, .int p3.1), (0, .ref v0), (1, .ref v1), (2, .ref v2), (3, .ref v3), (4, .ref v4), (5, .int v5)]) E dL_law_932 (by decide) rfl ?_
  refine z_aload_n E 4 dL_law_934 rfl ?_
  obtain ⟨_, e10, e⟩ := ob e
  obtain ⟨p11, e12, e⟩ := ob e
  refine z_kR2 (st := []) (av := [.ref v2]) E (k + 1) (n + 6) (z_rV (st := []) (av := []) E Y_X10_thrown k_L_161 (ci := 12) rfl (c_X10_thrown (z_El E) e12) dL_law_935 e10 rfl rfl (by decide) (by decide) (Nat.le_trans (zk (k := k) (a := 1) hk (by decide)) hKB) (Nat.le_trans (zk (k := n) (a := 6) hn (by decide)) hNB) (Nat.zero_le _)) rfl rfl rfl ?_
  refine z_iload E 1 dL_law_938 rfl ?_
  rcases oi e with ⟨c13, e⟩ | ⟨c13, e⟩
  · refine z_icmp_eqT (tgt := 945) E dL_law_940 rfl c13 ?_
    refine z_iload E 1 dL_law_945 rfl ?_
    rcases oi e with ⟨c14, e⟩ | ⟨c14, e⟩
    · refine z_if_neT (tgt := 962) E dL_law_947 rfl c14 ?_
      refine z_goto (tgt := 2815) E dL_law_962 rfl ?_
      obtain rfl := Option.some.inj e
      exact z_sub [2, 3, 4, 5, 6, 7] rfl (z_wide (zk (k := k) (a := 1) hk (by decide)) (zk (k := n) (a := 6) hn (by decide)) kk)
    · refine z_if_neF (tgt := 962) E dL_law_947 rfl (Classical.not_not.mp c14) ?_
      refine z_aload_n E 5 dL_law_950 rfl ?_
      refine z_iconst E dL_law_951 ic_0 ?_
      obtain ⟨x15, e16, e⟩ := ob e
      refine z_lald E dL_law_952 e16 ?_
      refine z_iload E 0 dL_law_953 rfl ?_
      refine z_i2l (v := p8.1.toInt64) E dL_law_955 rfl ?_
      refine z_lcmp E dL_law_956 ?_
      rcases oi e with ⟨c17, e⟩ | ⟨c17, e⟩
      · refine z_if_eqT (tgt := 962) E dL_law_957 rfl c17 ?_
        refine z_goto (tgt := 2815) E dL_law_962 rfl ?_
        obtain rfl := Option.some.inj e
        exact z_sub [2, 3, 4, 5, 6, 7] rfl (z_wide (zk (k := k) (a := 1) hk (by decide)) (zk (k := n) (a := 6) hn (by decide)) kk)
      · refine z_if_eqF (tgt := 962) E dL_law_957 rfl c17 ?_
        cases e
  · refine z_icmp_eqF (tgt := 945) E dL_law_940 rfl c13 ?_
    cases e
noncomputable def f_L_case13 (h : PH) (v0 : Nat) (v1 : Nat) (v2 : Nat) (v3 : Nat) (v4 : Nat) (v5 : Int32) : Option PH :=
  (gd h v1 11).bind fun _ =>
  (f_X9_index h v1).bind fun p2 =>
  (gd p2.2 v2 12).bind fun _ =>
  (f_X10_index p2.2 v2).bind fun p5 =>
  if p2.1 = p5.1 then
    some p5.2
  else
    none
theorem b_L_case13 {X : PX} (E : z_E X cL_law RL "law" 9 room_1 (some .boolean)) {k n KB NB : Nat} (hk : k + 0 ≤ KB) (hn : n + 0 ≤ NB) (hKB : KB ≤ room_1.cells) (hNB : NB ≤ room_1.slots) {h : PH} {v0 v1 v2 v3 v4 : Nat} {v5 : Int32} {s : PH} (e : f_L_case13 h v0 v1 v2 v3 v4 v5 = some s) (kk : WP X 9 KB NB 2815 [(0, .ref v0), (1, .ref v1), (2, .ref v2), (3, .ref v3), (4, .ref v4), (5, .int v5)] [] s) : WP X 9 k n 965 [(0, .ref v0), (1, .ref v1), (2, .ref v2), (3, .ref v3), (4, .ref v4), (5, .int v5)] [] h := by
  unfold f_L_case13 at e
  refine z_aload_n E 1 dL_law_965 rfl ?_
  obtain ⟨_, e1, e⟩ := ob e
  obtain ⟨p2, e3, e⟩ := ob e
  refine z_kR2 (st := []) (av := [.ref v1]) E k n (z_rV (st := []) (av := []) E Y_X9_index k_L_204 (ci := 11) rfl (c_X9_index (z_El E) e3) dL_law_966 e1 rfl rfl (by decide) (by decide) (Nat.le_trans (zk (k := k) (a := 0) hk (by decide)) hKB) (Nat.le_trans (zk (k := n) (a := 0) hn (by decide)) hNB) (Nat.zero_le _)) rfl rfl rfl ?_
  refine z_aload_n E 2 dL_law_969 rfl ?_
  obtain ⟨_, e4, e⟩ := ob e
  obtain ⟨p5, e6, e⟩ := ob e
  refine z_kR2 (st := [.int p2.1]) (av := [.ref v2]) E k n (z_rV (st := [.int p2.1]) (av := []) E Y_X10_index k_L_207 (ci := 12) rfl (c_X10_index (z_El E) e6) dL_law_970 e4 rfl rfl (by decide) (by decide) (Nat.le_trans (zk (k := k) (a := 0) hk (by decide)) hKB) (Nat.le_trans (zk (k := n) (a := 0) hn (by decide)) hNB) (Nat.le_of_ble_eq_true rfl)) rfl rfl rfl ?_
  rcases oi e with ⟨c7, e⟩ | ⟨c7, e⟩
  · refine z_icmp_eqT (tgt := 2815) E dL_law_973 rfl c7 ?_
    obtain rfl := Option.some.inj e
    exact z_sub [0, 1, 2, 3, 4, 5] rfl (z_wide (zk (k := k) (a := 0) hk (by decide)) (zk (k := n) (a := 0) hn (by decide)) kk)
  · refine z_icmp_eqF (tgt := 2815) E dL_law_973 rfl c7 ?_
    cases e
noncomputable def f_L_case14 (h : PH) (v0 : Nat) (v1 : Nat) (v2 : Nat) (v3 : Nat) (v4 : Nat) (v5 : Int32) : Option PH :=
  (gd h v1 11).bind fun _ =>
  (f_X9_indexByCounts h v1).bind fun p2 =>
  (gd p2.2 v2 12).bind fun _ =>
  (f_X10_indexByCounts p2.2 v2).bind fun p5 =>
  if p2.1 = p5.1 then
    some p5.2
  else
    none
theorem b_L_case14 {X : PX} (E : z_E X cL_law RL "law" 9 room_1 (some .boolean)) {k n KB NB : Nat} (hk : k + 0 ≤ KB) (hn : n + 0 ≤ NB) (hKB : KB ≤ room_1.cells) (hNB : NB ≤ room_1.slots) {h : PH} {v0 v1 v2 v3 v4 : Nat} {v5 : Int32} {s : PH} (e : f_L_case14 h v0 v1 v2 v3 v4 v5 = some s) (kk : WP X 9 KB NB 2815 [(0, .ref v0), (1, .ref v1), (2, .ref v2), (3, .ref v3), (4, .ref v4), (5, .int v5)] [] s) : WP X 9 k n 978 [(0, .ref v0), (1, .ref v1), (2, .ref v2), (3, .ref v3), (4, .ref v4), (5, .int v5)] [] h := by
  unfold f_L_case14 at e
  refine z_aload_n E 1 dL_law_978 rfl ?_
  obtain ⟨_, e1, e⟩ := ob e
  obtain ⟨p2, e3, e⟩ := ob e
  refine z_kR2 (st := []) (av := [.ref v1]) E k n (z_rV (st := []) (av := []) E Y_X9_indexByCounts k_L_208 (ci := 11) rfl (c_X9_indexByCounts (z_El E) e3) dL_law_979 e1 rfl rfl (by decide) (by decide) (Nat.le_trans (zk (k := k) (a := 0) hk (by decide)) hKB) (Nat.le_trans (zk (k := n) (a := 0) hn (by decide)) hNB) (Nat.zero_le _)) rfl rfl rfl ?_
  refine z_aload_n E 2 dL_law_982 rfl ?_
  obtain ⟨_, e4, e⟩ := ob e
  obtain ⟨p5, e6, e⟩ := ob e
  refine z_kR2 (st := [.int p2.1]) (av := [.ref v2]) E k n (z_rV (st := [.int p2.1]) (av := []) E Y_X10_indexByCounts k_L_211 (ci := 12) rfl (c_X10_indexByCounts (z_El E) e6) dL_law_983 e4 rfl rfl (by decide) (by decide) (Nat.le_trans (zk (k := k) (a := 0) hk (by decide)) hKB) (Nat.le_trans (zk (k := n) (a := 0) hn (by decide)) hNB) (Nat.le_of_ble_eq_true rfl)) rfl rfl rfl ?_
  rcases oi e with ⟨c7, e⟩ | ⟨c7, e⟩
  · refine z_icmp_eqT (tgt := 2815) E dL_law_986 rfl c7 ?_
    obtain rfl := Option.some.inj e
    exact z_sub [0, 1, 2, 3, 4, 5] rfl (z_wide (zk (k := k) (a := 0) hk (by decide)) (zk (k := n) (a := 0) hn (by decide)) kk)
  · refine z_icmp_eqF (tgt := 2815) E dL_law_986 rfl c7 ?_
    cases e
noncomputable def f_L_case15 (h : PH) (v0 : Nat) (v1 : Nat) (v2 : Nat) (v3 : Nat) (v4 : Nat) (v5 : Int32) : Option PH :=
  (alI .int h v0 (v5 + (1 : Int32))).bind fun x1 =>
  (f_L_noteByCitations h v1 x1 v3).bind fun p3 =>
  (alI .int p3.2 v0 (v5 + (1 : Int32))).bind fun x5 =>
  (gd p3.2 v2 12).bind fun _ =>
  (f_X10_noteByCitations p3.2 v2 x5).bind fun p8 =>
  (gd p8.2 v2 12).bind fun _ =>
  (f_X10_thrown p8.2 v2).bind fun p11 =>
  if p11 = p3.1 then
    if ¬ p3.1 = 0 then
      some p8.2
    else
      (alL p8.2 v3 (0 : Int32)).bind fun x15 =>
      if (lg_cmp x15 p8.1.toInt64) = 0 then
        some p8.2
      else
        none
  else
    none
theorem b_L_case15 {X : PX} (E : z_E X cL_law RL "law" 9 room_1 (some .boolean)) {k n KB NB : Nat} (hk : k + 1 ≤ KB) (hn : n + 6 ≤ NB) (hKB : KB ≤ room_1.cells) (hNB : NB ≤ room_1.slots) {h : PH} {v0 v1 v2 v3 v4 : Nat} {v5 : Int32} {s : PH} (e : f_L_case15 h v0 v1 v2 v3 v4 v5 = some s) (kk : WP X 9 KB NB 2815 [(0, .ref v0), (1, .ref v1), (2, .ref v2), (3, .ref v3), (4, .ref v4), (5, .int v5)] [] s) : WP X 9 k n 991 [(0, .ref v0), (1, .ref v1), (2, .ref v2), (3, .ref v3), (4, .ref v4), (5, .int v5)] [] h := by
  unfold f_L_case15 at e
  refine z_aload_n E 1 dL_law_991 rfl ?_
  refine z_aload_n E 0 dL_law_992 rfl ?_
  refine z_iload E 5 dL_law_993 rfl ?_
  refine z_iconst E dL_law_995 ic_1 ?_
  refine z_iadd E dL_law_996 ?_
  obtain ⟨x1, e2, e⟩ := ob e
  refine z_iald E dL_law_997 e2 ?_
  refine z_aload_n E 3 dL_law_998 rfl ?_
  obtain ⟨p3, e4, e⟩ := ob e
  refine z_kR2 (st := []) (av := [.ref v1, .int x1, .ref v3]) E (k + 1) (n + 6) (z_rSX (st := []) (av := [.ref v1, .int x1, .ref v3]) E Y_L_noteByCitations k_L_212 (c_L_noteByCitations (z_El E) e4) dL_law_999 rfl rfl (by decide) (by decide) (Nat.le_trans (zk (k := k) (a := 1) hk (by decide)) hKB) (Nat.le_trans (zk (k := n) (a := 6) hn (by decide)) hNB) (Nat.zero_le _)) rfl rfl rfl ?_
  refine z_istore (lv2 := [(6, .int p3.1), (0, .ref v0), (1, .ref v1), (2, .ref v2), (3, .ref v3), (4, .ref v4), (5, .int v5)]) E dL_law_1002 (by decide) rfl ?_
  refine z_aload_n E 3 dL_law_1004 rfl ?_
  refine z_aload_n E 1 dL_law_1005 rfl ?_
  refine z_iload E 6 dL_law_1006 rfl ?_
  refine z_iconst E dL_law_1008 ic_1 ?_
  refine z_iadd E dL_law_1009 ?_
  obtain ⟨x5, e6, e⟩ := ob e
  refine z_iald E dL_law_1010 e6 ?_
  obtain ⟨_, e7, e⟩ := ob e
  obtain ⟨p8, e9, e⟩ := ob e
  refine z_kR2 (st := []) (av := [.ref v2, .int x5]) E (k + 1) (n + 6) (z_rV (st := []) (av := [.int x5]) E Y_X10_noteByCitations k_L_214 (ci := 12) rfl (c_X10_noteByCitations (z_El E) e9) dL_law_1011 e7 rfl rfl (by decide) (by decide) (Nat.le_trans (zk (k := k) (a := 1) hk (by decide)) hKB) (Nat.le_trans (zk (k := n) (a := 6) hn (by decide)) hNB) (Nat.zero_le _)) rfl rfl rfl ?_
  refine z_istore (lv2 := [(7, .int p8.1), (6, .int p3.1), (0, .ref v0), (1, .ref v1), (2, .ref v2), (3, .ref v3), (4, .ref v4), (5, .int v5)]) E dL_law_1014 (by decide) rfl ?_
  refine z_aload_n E 4 dL_law_1016 rfl ?_
  obtain ⟨_, e10, e⟩ := ob e
  obtain ⟨p11, e12, e⟩ := ob e
  refine z_kR2 (st := []) (av := [.ref v2]) E (k + 1) (n + 6) (z_rV (st := []) (av := []) E Y_X10_thrown k_L_161 (ci := 12) rfl (c_X10_thrown (z_El E) e12) dL_law_1017 e10 rfl rfl (by decide) (by decide) (Nat.le_trans (zk (k := k) (a := 1) hk (by decide)) hKB) (Nat.le_trans (zk (k := n) (a := 6) hn (by decide)) hNB) (Nat.zero_le _)) rfl rfl rfl ?_
  refine z_iload E 1 dL_law_1020 rfl ?_
  rcases oi e with ⟨c13, e⟩ | ⟨c13, e⟩
  · refine z_icmp_eqT (tgt := 1027) E dL_law_1022 rfl c13 ?_
    refine z_iload E 1 dL_law_1027 rfl ?_
    rcases oi e with ⟨c14, e⟩ | ⟨c14, e⟩
    · refine z_if_neT (tgt := 1044) E dL_law_1029 rfl c14 ?_
      refine z_goto (tgt := 2815) E dL_law_1044 rfl ?_
      obtain rfl := Option.some.inj e
      exact z_sub [2, 3, 4, 5, 6, 7] rfl (z_wide (zk (k := k) (a := 1) hk (by decide)) (zk (k := n) (a := 6) hn (by decide)) kk)
    · refine z_if_neF (tgt := 1044) E dL_law_1029 rfl (Classical.not_not.mp c14) ?_
      refine z_aload_n E 5 dL_law_1032 rfl ?_
      refine z_iconst E dL_law_1033 ic_0 ?_
      obtain ⟨x15, e16, e⟩ := ob e
      refine z_lald E dL_law_1034 e16 ?_
      refine z_iload E 0 dL_law_1035 rfl ?_
      refine z_i2l (v := p8.1.toInt64) E dL_law_1037 rfl ?_
      refine z_lcmp E dL_law_1038 ?_
      rcases oi e with ⟨c17, e⟩ | ⟨c17, e⟩
      · refine z_if_eqT (tgt := 1044) E dL_law_1039 rfl c17 ?_
        refine z_goto (tgt := 2815) E dL_law_1044 rfl ?_
        obtain rfl := Option.some.inj e
        exact z_sub [2, 3, 4, 5, 6, 7] rfl (z_wide (zk (k := k) (a := 1) hk (by decide)) (zk (k := n) (a := 6) hn (by decide)) kk)
      · refine z_if_eqF (tgt := 1044) E dL_law_1039 rfl c17 ?_
        cases e
  · refine z_icmp_eqF (tgt := 1027) E dL_law_1022 rfl c13 ?_
    cases e
noncomputable def f_L_case16 (h : PH) (v0 : Nat) (v1 : Nat) (v2 : Nat) (v3 : Nat) (v4 : Nat) (v5 : Int32) : Option PH :=
  (alI .int h v0 (v5 + (1 : Int32))).bind fun x1 =>
  (alI .int h v0 (v5 + (2 : Int32))).bind fun x3 =>
  (f_L_setCurrent h v1 x1 x3 v3).bind fun p5 =>
  (alI .int p5.2 v0 (v5 + (1 : Int32))).bind fun x7 =>
  (alI .int p5.2 v0 (v5 + (2 : Int32))).bind fun x9 =>
  (gd p5.2 v2 12).bind fun _ =>
  (f_X10_setCurrent p5.2 v2 x7 x9).bind fun p12 =>
  (gd p12.2 v2 12).bind fun _ =>
  (f_X10_thrown p12.2 v2).bind fun p15 =>
  if p15 = p5.1 then
    if ¬ p5.1 = 0 then
      some p12.2
    else
      (alL p12.2 v3 (0 : Int32)).bind fun x19 =>
      if (lg_cmp x19 p12.1.toInt64) = 0 then
        some p12.2
      else
        none
  else
    none
theorem b_L_case16 {X : PX} (E : z_E X cL_law RL "law" 9 room_1 (some .boolean)) {k n KB NB : Nat} (hk : k + 12 ≤ KB) (hn : n + 117 ≤ NB) (hKB : KB ≤ room_1.cells) (hNB : NB ≤ room_1.slots) {h : PH} {v0 v1 v2 v3 v4 : Nat} {v5 : Int32} {s : PH} (e : f_L_case16 h v0 v1 v2 v3 v4 v5 = some s) (kk : WP X 9 KB NB 2815 [(0, .ref v0), (1, .ref v1), (2, .ref v2), (3, .ref v3), (4, .ref v4), (5, .int v5)] [] s) : WP X 9 k n 1047 [(0, .ref v0), (1, .ref v1), (2, .ref v2), (3, .ref v3), (4, .ref v4), (5, .int v5)] [] h := by
  unfold f_L_case16 at e
  refine z_aload_n E 1 dL_law_1047 rfl ?_
  refine z_aload_n E 0 dL_law_1048 rfl ?_
  refine z_iload E 5 dL_law_1049 rfl ?_
  refine z_iconst E dL_law_1051 ic_1 ?_
  refine z_iadd E dL_law_1052 ?_
  obtain ⟨x1, e2, e⟩ := ob e
  refine z_iald E dL_law_1053 e2 ?_
  refine z_aload_n E 0 dL_law_1054 rfl ?_
  refine z_iload E 5 dL_law_1055 rfl ?_
  refine z_iconst E dL_law_1057 ic_2 ?_
  refine z_iadd E dL_law_1058 ?_
  obtain ⟨x3, e4, e⟩ := ob e
  refine z_iald E dL_law_1059 e4 ?_
  refine z_aload_n E 3 dL_law_1060 rfl ?_
  obtain ⟨p5, e6, e⟩ := ob e
  refine z_kR2 (st := []) (av := [.ref v1, .int x1, .int x3, .ref v3]) E (k + 12) (n + 117) (z_rSX (st := []) (av := [.ref v1, .int x1, .int x3, .ref v3]) E Y_L_setCurrent k_L_215 (c_L_setCurrent (z_El E) e6) dL_law_1061 rfl rfl (by decide) (by decide) (Nat.le_trans (zk (k := k) (a := 12) hk (by decide)) hKB) (Nat.le_trans (zk (k := n) (a := 117) hn (by decide)) hNB) (Nat.zero_le _)) rfl rfl rfl ?_
  refine z_istore (lv2 := [(6, .int p5.1), (0, .ref v0), (1, .ref v1), (2, .ref v2), (3, .ref v3), (4, .ref v4), (5, .int v5)]) E dL_law_1064 (by decide) rfl ?_
  refine z_aload_n E 3 dL_law_1066 rfl ?_
  refine z_aload_n E 1 dL_law_1067 rfl ?_
  refine z_iload E 6 dL_law_1068 rfl ?_
  refine z_iconst E dL_law_1070 ic_1 ?_
  refine z_iadd E dL_law_1071 ?_
  obtain ⟨x7, e8, e⟩ := ob e
  refine z_iald E dL_law_1072 e8 ?_
  refine z_aload_n E 1 dL_law_1073 rfl ?_
  refine z_iload E 6 dL_law_1074 rfl ?_
  refine z_iconst E dL_law_1076 ic_2 ?_
  refine z_iadd E dL_law_1077 ?_
  obtain ⟨x9, e10, e⟩ := ob e
  refine z_iald E dL_law_1078 e10 ?_
  obtain ⟨_, e11, e⟩ := ob e
  obtain ⟨p12, e13, e⟩ := ob e
  refine z_kR2 (st := []) (av := [.ref v2, .int x7, .int x9]) E (k + 12) (n + 117) (z_rV (st := []) (av := [.int x7, .int x9]) E Y_X10_setCurrent k_L_217 (ci := 12) rfl (c_X10_setCurrent (z_El E) e13) dL_law_1079 e11 rfl rfl (by decide) (by decide) (Nat.le_trans (zk (k := k) (a := 12) hk (by decide)) hKB) (Nat.le_trans (zk (k := n) (a := 117) hn (by decide)) hNB) (Nat.zero_le _)) rfl rfl rfl ?_
  refine z_istore (lv2 := [(7, .int p12.1), (6, .int p5.1), (0, .ref v0), (1, .ref v1), (2, .ref v2), (3, .ref v3), (4, .ref v4), (5, .int v5)]) E dL_law_1082 (by decide) rfl ?_
  refine z_aload_n E 4 dL_law_1084 rfl ?_
  obtain ⟨_, e14, e⟩ := ob e
  obtain ⟨p15, e16, e⟩ := ob e
  refine z_kR2 (st := []) (av := [.ref v2]) E (k + 12) (n + 117) (z_rV (st := []) (av := []) E Y_X10_thrown k_L_161 (ci := 12) rfl (c_X10_thrown (z_El E) e16) dL_law_1085 e14 rfl rfl (by decide) (by decide) (Nat.le_trans (zk (k := k) (a := 12) hk (by decide)) hKB) (Nat.le_trans (zk (k := n) (a := 117) hn (by decide)) hNB) (Nat.zero_le _)) rfl rfl rfl ?_
  refine z_iload E 1 dL_law_1088 rfl ?_
  rcases oi e with ⟨c17, e⟩ | ⟨c17, e⟩
  · refine z_icmp_eqT (tgt := 1095) E dL_law_1090 rfl c17 ?_
    refine z_iload E 1 dL_law_1095 rfl ?_
    rcases oi e with ⟨c18, e⟩ | ⟨c18, e⟩
    · refine z_if_neT (tgt := 1112) E dL_law_1097 rfl c18 ?_
      refine z_goto (tgt := 2815) E dL_law_1112 rfl ?_
      obtain rfl := Option.some.inj e
      exact z_sub [2, 3, 4, 5, 6, 7] rfl (z_wide (zk (k := k) (a := 12) hk (by decide)) (zk (k := n) (a := 117) hn (by decide)) kk)
    · refine z_if_neF (tgt := 1112) E dL_law_1097 rfl (Classical.not_not.mp c18) ?_
      refine z_aload_n E 5 dL_law_1100 rfl ?_
      refine z_iconst E dL_law_1101 ic_0 ?_
      obtain ⟨x19, e20, e⟩ := ob e
      refine z_lald E dL_law_1102 e20 ?_
      refine z_iload E 0 dL_law_1103 rfl ?_
      refine z_i2l (v := p12.1.toInt64) E dL_law_1105 rfl ?_
      refine z_lcmp E dL_law_1106 ?_
      rcases oi e with ⟨c21, e⟩ | ⟨c21, e⟩
      · refine z_if_eqT (tgt := 1112) E dL_law_1107 rfl c21 ?_
        refine z_goto (tgt := 2815) E dL_law_1112 rfl ?_
        obtain rfl := Option.some.inj e
        exact z_sub [2, 3, 4, 5, 6, 7] rfl (z_wide (zk (k := k) (a := 12) hk (by decide)) (zk (k := n) (a := 117) hn (by decide)) kk)
      · refine z_if_eqF (tgt := 1112) E dL_law_1107 rfl c21 ?_
        cases e
  · refine z_icmp_eqF (tgt := 1095) E dL_law_1090 rfl c17 ?_
    cases e
noncomputable def f_L_case17 (h : PH) (v0 : Nat) (v1 : Nat) (v2 : Nat) (v3 : Nat) (v4 : Nat) (v5 : Int32) : Option PH :=
  (alI .int h v0 (v5 + (1 : Int32))).bind fun x1 =>
  (alI .int h v0 (v5 + (2 : Int32))).bind fun x3 =>
  (f_L_setQuota h v1 x1 x3 v3).bind fun p5 =>
  (alI .int p5.2 v0 (v5 + (1 : Int32))).bind fun x7 =>
  (alI .int p5.2 v0 (v5 + (2 : Int32))).bind fun x9 =>
  (gd p5.2 v2 12).bind fun _ =>
  (f_X10_setQuota p5.2 v2 x7 x9).bind fun p12 =>
  (gd p12.2 v2 12).bind fun _ =>
  (f_X10_thrown p12.2 v2).bind fun p15 =>
  if p15 = p5.1 then
    if ¬ p5.1 = 0 then
      some p12.2
    else
      (alL p12.2 v3 (0 : Int32)).bind fun x19 =>
      if (lg_cmp x19 p12.1.toInt64) = 0 then
        some p12.2
      else
        none
  else
    none
theorem b_L_case17 {X : PX} (E : z_E X cL_law RL "law" 9 room_1 (some .boolean)) {k n KB NB : Nat} (hk : k + 12 ≤ KB) (hn : n + 117 ≤ NB) (hKB : KB ≤ room_1.cells) (hNB : NB ≤ room_1.slots) {h : PH} {v0 v1 v2 v3 v4 : Nat} {v5 : Int32} {s : PH} (e : f_L_case17 h v0 v1 v2 v3 v4 v5 = some s) (kk : WP X 9 KB NB 2815 [(0, .ref v0), (1, .ref v1), (2, .ref v2), (3, .ref v3), (4, .ref v4), (5, .int v5)] [] s) : WP X 9 k n 1115 [(0, .ref v0), (1, .ref v1), (2, .ref v2), (3, .ref v3), (4, .ref v4), (5, .int v5)] [] h := by
  unfold f_L_case17 at e
  refine z_aload_n E 1 dL_law_1115 rfl ?_
  refine z_aload_n E 0 dL_law_1116 rfl ?_
  refine z_iload E 5 dL_law_1117 rfl ?_
  refine z_iconst E dL_law_1119 ic_1 ?_
  refine z_iadd E dL_law_1120 ?_
  obtain ⟨x1, e2, e⟩ := ob e
  refine z_iald E dL_law_1121 e2 ?_
  refine z_aload_n E 0 dL_law_1122 rfl ?_
  refine z_iload E 5 dL_law_1123 rfl ?_
  refine z_iconst E dL_law_1125 ic_2 ?_
  refine z_iadd E dL_law_1126 ?_
  obtain ⟨x3, e4, e⟩ := ob e
  refine z_iald E dL_law_1127 e4 ?_
  refine z_aload_n E 3 dL_law_1128 rfl ?_
  obtain ⟨p5, e6, e⟩ := ob e
  refine z_kR2 (st := []) (av := [.ref v1, .int x1, .int x3, .ref v3]) E (k + 12) (n + 117) (z_rSX (st := []) (av := [.ref v1, .int x1, .int x3, .ref v3]) E Y_L_setQuota k_L_218 (c_L_setQuota (z_El E) e6) dL_law_1129 rfl rfl (by decide) (by decide) (Nat.le_trans (zk (k := k) (a := 12) hk (by decide)) hKB) (Nat.le_trans (zk (k := n) (a := 117) hn (by decide)) hNB) (Nat.zero_le _)) rfl rfl rfl ?_
  refine z_istore (lv2 := [(6, .int p5.1), (0, .ref v0), (1, .ref v1), (2, .ref v2), (3, .ref v3), (4, .ref v4), (5, .int v5)]) E dL_law_1132 (by decide) rfl ?_
  refine z_aload_n E 3 dL_law_1134 rfl ?_
  refine z_aload_n E 1 dL_law_1135 rfl ?_
  refine z_iload E 6 dL_law_1136 rfl ?_
  refine z_iconst E dL_law_1138 ic_1 ?_
  refine z_iadd E dL_law_1139 ?_
  obtain ⟨x7, e8, e⟩ := ob e
  refine z_iald E dL_law_1140 e8 ?_
  refine z_aload_n E 1 dL_law_1141 rfl ?_
  refine z_iload E 6 dL_law_1142 rfl ?_
  refine z_iconst E dL_law_1144 ic_2 ?_
  refine z_iadd E dL_law_1145 ?_
  obtain ⟨x9, e10, e⟩ := ob e
  refine z_iald E dL_law_1146 e10 ?_
  obtain ⟨_, e11, e⟩ := ob e
  obtain ⟨p12, e13, e⟩ := ob e
  refine z_kR2 (st := []) (av := [.ref v2, .int x7, .int x9]) E (k + 12) (n + 117) (z_rV (st := []) (av := [.int x7, .int x9]) E Y_X10_setQuota k_L_220 (ci := 12) rfl (c_X10_setQuota (z_El E) e13) dL_law_1147 e11 rfl rfl (by decide) (by decide) (Nat.le_trans (zk (k := k) (a := 12) hk (by decide)) hKB) (Nat.le_trans (zk (k := n) (a := 117) hn (by decide)) hNB) (Nat.zero_le _)) rfl rfl rfl ?_
  refine z_istore (lv2 := [(7, .int p12.1), (6, .int p5.1), (0, .ref v0), (1, .ref v1), (2, .ref v2), (3, .ref v3), (4, .ref v4), (5, .int v5)]) E dL_law_1150 (by decide) rfl ?_
  refine z_aload_n E 4 dL_law_1152 rfl ?_
  obtain ⟨_, e14, e⟩ := ob e
  obtain ⟨p15, e16, e⟩ := ob e
  refine z_kR2 (st := []) (av := [.ref v2]) E (k + 12) (n + 117) (z_rV (st := []) (av := []) E Y_X10_thrown k_L_161 (ci := 12) rfl (c_X10_thrown (z_El E) e16) dL_law_1153 e14 rfl rfl (by decide) (by decide) (Nat.le_trans (zk (k := k) (a := 12) hk (by decide)) hKB) (Nat.le_trans (zk (k := n) (a := 117) hn (by decide)) hNB) (Nat.zero_le _)) rfl rfl rfl ?_
  refine z_iload E 1 dL_law_1156 rfl ?_
  rcases oi e with ⟨c17, e⟩ | ⟨c17, e⟩
  · refine z_icmp_eqT (tgt := 1163) E dL_law_1158 rfl c17 ?_
    refine z_iload E 1 dL_law_1163 rfl ?_
    rcases oi e with ⟨c18, e⟩ | ⟨c18, e⟩
    · refine z_if_neT (tgt := 1180) E dL_law_1165 rfl c18 ?_
      refine z_goto (tgt := 2815) E dL_law_1180 rfl ?_
      obtain rfl := Option.some.inj e
      exact z_sub [2, 3, 4, 5, 6, 7] rfl (z_wide (zk (k := k) (a := 12) hk (by decide)) (zk (k := n) (a := 117) hn (by decide)) kk)
    · refine z_if_neF (tgt := 1180) E dL_law_1165 rfl (Classical.not_not.mp c18) ?_
      refine z_aload_n E 5 dL_law_1168 rfl ?_
      refine z_iconst E dL_law_1169 ic_0 ?_
      obtain ⟨x19, e20, e⟩ := ob e
      refine z_lald E dL_law_1170 e20 ?_
      refine z_iload E 0 dL_law_1171 rfl ?_
      refine z_i2l (v := p12.1.toInt64) E dL_law_1173 rfl ?_
      refine z_lcmp E dL_law_1174 ?_
      rcases oi e with ⟨c21, e⟩ | ⟨c21, e⟩
      · refine z_if_eqT (tgt := 1180) E dL_law_1175 rfl c21 ?_
        refine z_goto (tgt := 2815) E dL_law_1180 rfl ?_
        obtain rfl := Option.some.inj e
        exact z_sub [2, 3, 4, 5, 6, 7] rfl (z_wide (zk (k := k) (a := 12) hk (by decide)) (zk (k := n) (a := 117) hn (by decide)) kk)
      · refine z_if_eqF (tgt := 1180) E dL_law_1175 rfl c21 ?_
        cases e
  · refine z_icmp_eqF (tgt := 1163) E dL_law_1158 rfl c17 ?_
    cases e
noncomputable def f_L_case18 (h : PH) (v0 : Nat) (v1 : Nat) (v2 : Nat) (v3 : Nat) (v4 : Nat) (v5 : Int32) : Option PH :=
  (alI .int h v0 (v5 + (1 : Int32))).bind fun x1 =>
  (f_L_current h v1 x1 v3).bind fun p3 =>
  (alI .int p3.2 v0 (v5 + (1 : Int32))).bind fun x5 =>
  (gd p3.2 v2 12).bind fun _ =>
  (f_X10_current p3.2 v2 x5).bind fun p8 =>
  (gd p8.2 v2 12).bind fun _ =>
  (f_X10_thrown p8.2 v2).bind fun p11 =>
  if p11 = p3.1 then
    if ¬ p3.1 = 0 then
      some p8.2
    else
      (alL p8.2 v3 (0 : Int32)).bind fun x15 =>
      if (lg_cmp x15 p8.1.toInt64) = 0 then
        some p8.2
      else
        none
  else
    none
theorem b_L_case18 {X : PX} (E : z_E X cL_law RL "law" 9 room_1 (some .boolean)) {k n KB NB : Nat} (hk : k + 1 ≤ KB) (hn : n + 6 ≤ NB) (hKB : KB ≤ room_1.cells) (hNB : NB ≤ room_1.slots) {h : PH} {v0 v1 v2 v3 v4 : Nat} {v5 : Int32} {s : PH} (e : f_L_case18 h v0 v1 v2 v3 v4 v5 = some s) (kk : WP X 9 KB NB 2815 [(0, .ref v0), (1, .ref v1), (2, .ref v2), (3, .ref v3), (4, .ref v4), (5, .int v5)] [] s) : WP X 9 k n 1183 [(0, .ref v0), (1, .ref v1), (2, .ref v2), (3, .ref v3), (4, .ref v4), (5, .int v5)] [] h := by
  unfold f_L_case18 at e
  refine z_aload_n E 1 dL_law_1183 rfl ?_
  refine z_aload_n E 0 dL_law_1184 rfl ?_
  refine z_iload E 5 dL_law_1185 rfl ?_
  refine z_iconst E dL_law_1187 ic_1 ?_
  refine z_iadd E dL_law_1188 ?_
  obtain ⟨x1, e2, e⟩ := ob e
  refine z_iald E dL_law_1189 e2 ?_
  refine z_aload_n E 3 dL_law_1190 rfl ?_
  obtain ⟨p3, e4, e⟩ := ob e
  refine z_kR2 (st := []) (av := [.ref v1, .int x1, .ref v3]) E (k + 1) (n + 6) (z_rSX (st := []) (av := [.ref v1, .int x1, .ref v3]) E Y_L_current k_L_221 (c_L_current (z_El E) e4) dL_law_1191 rfl rfl (by decide) (by decide) (Nat.le_trans (zk (k := k) (a := 1) hk (by decide)) hKB) (Nat.le_trans (zk (k := n) (a := 6) hn (by decide)) hNB) (Nat.zero_le _)) rfl rfl rfl ?_
  refine z_istore (lv2 := [(6, .int p3.1), (0, .ref v0), (1, .ref v1), (2, .ref v2), (3, .ref v3), (4, .ref v4), (5, .int v5)]) E dL_law_1194 (by decide) rfl ?_
  refine z_aload_n E 3 dL_law_1196 rfl ?_
  refine z_aload_n E 1 dL_law_1197 rfl ?_
  refine z_iload E 6 dL_law_1198 rfl ?_
  refine z_iconst E dL_law_1200 ic_1 ?_
  refine z_iadd E dL_law_1201 ?_
  obtain ⟨x5, e6, e⟩ := ob e
  refine z_iald E dL_law_1202 e6 ?_
  obtain ⟨_, e7, e⟩ := ob e
  obtain ⟨p8, e9, e⟩ := ob e
  refine z_kR2 (st := []) (av := [.ref v2, .int x5]) E (k + 1) (n + 6) (z_rV (st := []) (av := [.int x5]) E Y_X10_current k_L_223 (ci := 12) rfl (c_X10_current (z_El E) e9) dL_law_1203 e7 rfl rfl (by decide) (by decide) (Nat.le_trans (zk (k := k) (a := 1) hk (by decide)) hKB) (Nat.le_trans (zk (k := n) (a := 6) hn (by decide)) hNB) (Nat.zero_le _)) rfl rfl rfl ?_
  refine z_istore (lv2 := [(7, .int p8.1), (6, .int p3.1), (0, .ref v0), (1, .ref v1), (2, .ref v2), (3, .ref v3), (4, .ref v4), (5, .int v5)]) E dL_law_1206 (by decide) rfl ?_
  refine z_aload_n E 4 dL_law_1208 rfl ?_
  obtain ⟨_, e10, e⟩ := ob e
  obtain ⟨p11, e12, e⟩ := ob e
  refine z_kR2 (st := []) (av := [.ref v2]) E (k + 1) (n + 6) (z_rV (st := []) (av := []) E Y_X10_thrown k_L_161 (ci := 12) rfl (c_X10_thrown (z_El E) e12) dL_law_1209 e10 rfl rfl (by decide) (by decide) (Nat.le_trans (zk (k := k) (a := 1) hk (by decide)) hKB) (Nat.le_trans (zk (k := n) (a := 6) hn (by decide)) hNB) (Nat.zero_le _)) rfl rfl rfl ?_
  refine z_iload E 1 dL_law_1212 rfl ?_
  rcases oi e with ⟨c13, e⟩ | ⟨c13, e⟩
  · refine z_icmp_eqT (tgt := 1219) E dL_law_1214 rfl c13 ?_
    refine z_iload E 1 dL_law_1219 rfl ?_
    rcases oi e with ⟨c14, e⟩ | ⟨c14, e⟩
    · refine z_if_neT (tgt := 1236) E dL_law_1221 rfl c14 ?_
      refine z_goto (tgt := 2815) E dL_law_1236 rfl ?_
      obtain rfl := Option.some.inj e
      exact z_sub [2, 3, 4, 5, 6, 7] rfl (z_wide (zk (k := k) (a := 1) hk (by decide)) (zk (k := n) (a := 6) hn (by decide)) kk)
    · refine z_if_neF (tgt := 1236) E dL_law_1221 rfl (Classical.not_not.mp c14) ?_
      refine z_aload_n E 5 dL_law_1224 rfl ?_
      refine z_iconst E dL_law_1225 ic_0 ?_
      obtain ⟨x15, e16, e⟩ := ob e
      refine z_lald E dL_law_1226 e16 ?_
      refine z_iload E 0 dL_law_1227 rfl ?_
      refine z_i2l (v := p8.1.toInt64) E dL_law_1229 rfl ?_
      refine z_lcmp E dL_law_1230 ?_
      rcases oi e with ⟨c17, e⟩ | ⟨c17, e⟩
      · refine z_if_eqT (tgt := 1236) E dL_law_1231 rfl c17 ?_
        refine z_goto (tgt := 2815) E dL_law_1236 rfl ?_
        obtain rfl := Option.some.inj e
        exact z_sub [2, 3, 4, 5, 6, 7] rfl (z_wide (zk (k := k) (a := 1) hk (by decide)) (zk (k := n) (a := 6) hn (by decide)) kk)
      · refine z_if_eqF (tgt := 1236) E dL_law_1231 rfl c17 ?_
        cases e
  · refine z_icmp_eqF (tgt := 1219) E dL_law_1214 rfl c13 ?_
    cases e
noncomputable def f_L_case19 (h : PH) (v0 : Nat) (v1 : Nat) (v2 : Nat) (v3 : Nat) (v4 : Nat) (v5 : Int32) : Option PH :=
  (alI .int h v0 (v5 + (1 : Int32))).bind fun x1 =>
  (f_L_quota h v1 x1 v3).bind fun p3 =>
  (alI .int p3.2 v0 (v5 + (1 : Int32))).bind fun x5 =>
  (gd p3.2 v2 12).bind fun _ =>
  (f_X10_quota p3.2 v2 x5).bind fun p8 =>
  (gd p8.2 v2 12).bind fun _ =>
  (f_X10_thrown p8.2 v2).bind fun p11 =>
  if p11 = p3.1 then
    if ¬ p3.1 = 0 then
      some p8.2
    else
      (alL p8.2 v3 (0 : Int32)).bind fun x15 =>
      if (lg_cmp x15 p8.1.toInt64) = 0 then
        some p8.2
      else
        none
  else
    none
theorem b_L_case19 {X : PX} (E : z_E X cL_law RL "law" 9 room_1 (some .boolean)) {k n KB NB : Nat} (hk : k + 1 ≤ KB) (hn : n + 6 ≤ NB) (hKB : KB ≤ room_1.cells) (hNB : NB ≤ room_1.slots) {h : PH} {v0 v1 v2 v3 v4 : Nat} {v5 : Int32} {s : PH} (e : f_L_case19 h v0 v1 v2 v3 v4 v5 = some s) (kk : WP X 9 KB NB 2815 [(0, .ref v0), (1, .ref v1), (2, .ref v2), (3, .ref v3), (4, .ref v4), (5, .int v5)] [] s) : WP X 9 k n 1239 [(0, .ref v0), (1, .ref v1), (2, .ref v2), (3, .ref v3), (4, .ref v4), (5, .int v5)] [] h := by
  unfold f_L_case19 at e
  refine z_aload_n E 1 dL_law_1239 rfl ?_
  refine z_aload_n E 0 dL_law_1240 rfl ?_
  refine z_iload E 5 dL_law_1241 rfl ?_
  refine z_iconst E dL_law_1243 ic_1 ?_
  refine z_iadd E dL_law_1244 ?_
  obtain ⟨x1, e2, e⟩ := ob e
  refine z_iald E dL_law_1245 e2 ?_
  refine z_aload_n E 3 dL_law_1246 rfl ?_
  obtain ⟨p3, e4, e⟩ := ob e
  refine z_kR2 (st := []) (av := [.ref v1, .int x1, .ref v3]) E (k + 1) (n + 6) (z_rSX (st := []) (av := [.ref v1, .int x1, .ref v3]) E Y_L_quota k_L_224 (c_L_quota (z_El E) e4) dL_law_1247 rfl rfl (by decide) (by decide) (Nat.le_trans (zk (k := k) (a := 1) hk (by decide)) hKB) (Nat.le_trans (zk (k := n) (a := 6) hn (by decide)) hNB) (Nat.zero_le _)) rfl rfl rfl ?_
  refine z_istore (lv2 := [(6, .int p3.1), (0, .ref v0), (1, .ref v1), (2, .ref v2), (3, .ref v3), (4, .ref v4), (5, .int v5)]) E dL_law_1250 (by decide) rfl ?_
  refine z_aload_n E 3 dL_law_1252 rfl ?_
  refine z_aload_n E 1 dL_law_1253 rfl ?_
  refine z_iload E 6 dL_law_1254 rfl ?_
  refine z_iconst E dL_law_1256 ic_1 ?_
  refine z_iadd E dL_law_1257 ?_
  obtain ⟨x5, e6, e⟩ := ob e
  refine z_iald E dL_law_1258 e6 ?_
  obtain ⟨_, e7, e⟩ := ob e
  obtain ⟨p8, e9, e⟩ := ob e
  refine z_kR2 (st := []) (av := [.ref v2, .int x5]) E (k + 1) (n + 6) (z_rV (st := []) (av := [.int x5]) E Y_X10_quota k_L_226 (ci := 12) rfl (c_X10_quota (z_El E) e9) dL_law_1259 e7 rfl rfl (by decide) (by decide) (Nat.le_trans (zk (k := k) (a := 1) hk (by decide)) hKB) (Nat.le_trans (zk (k := n) (a := 6) hn (by decide)) hNB) (Nat.zero_le _)) rfl rfl rfl ?_
  refine z_istore (lv2 := [(7, .int p8.1), (6, .int p3.1), (0, .ref v0), (1, .ref v1), (2, .ref v2), (3, .ref v3), (4, .ref v4), (5, .int v5)]) E dL_law_1262 (by decide) rfl ?_
  refine z_aload_n E 4 dL_law_1264 rfl ?_
  obtain ⟨_, e10, e⟩ := ob e
  obtain ⟨p11, e12, e⟩ := ob e
  refine z_kR2 (st := []) (av := [.ref v2]) E (k + 1) (n + 6) (z_rV (st := []) (av := []) E Y_X10_thrown k_L_161 (ci := 12) rfl (c_X10_thrown (z_El E) e12) dL_law_1265 e10 rfl rfl (by decide) (by decide) (Nat.le_trans (zk (k := k) (a := 1) hk (by decide)) hKB) (Nat.le_trans (zk (k := n) (a := 6) hn (by decide)) hNB) (Nat.zero_le _)) rfl rfl rfl ?_
  refine z_iload E 1 dL_law_1268 rfl ?_
  rcases oi e with ⟨c13, e⟩ | ⟨c13, e⟩
  · refine z_icmp_eqT (tgt := 1275) E dL_law_1270 rfl c13 ?_
    refine z_iload E 1 dL_law_1275 rfl ?_
    rcases oi e with ⟨c14, e⟩ | ⟨c14, e⟩
    · refine z_if_neT (tgt := 1292) E dL_law_1277 rfl c14 ?_
      refine z_goto (tgt := 2815) E dL_law_1292 rfl ?_
      obtain rfl := Option.some.inj e
      exact z_sub [2, 3, 4, 5, 6, 7] rfl (z_wide (zk (k := k) (a := 1) hk (by decide)) (zk (k := n) (a := 6) hn (by decide)) kk)
    · refine z_if_neF (tgt := 1292) E dL_law_1277 rfl (Classical.not_not.mp c14) ?_
      refine z_aload_n E 5 dL_law_1280 rfl ?_
      refine z_iconst E dL_law_1281 ic_0 ?_
      obtain ⟨x15, e16, e⟩ := ob e
      refine z_lald E dL_law_1282 e16 ?_
      refine z_iload E 0 dL_law_1283 rfl ?_
      refine z_i2l (v := p8.1.toInt64) E dL_law_1285 rfl ?_
      refine z_lcmp E dL_law_1286 ?_
      rcases oi e with ⟨c17, e⟩ | ⟨c17, e⟩
      · refine z_if_eqT (tgt := 1292) E dL_law_1287 rfl c17 ?_
        refine z_goto (tgt := 2815) E dL_law_1292 rfl ?_
        obtain rfl := Option.some.inj e
        exact z_sub [2, 3, 4, 5, 6, 7] rfl (z_wide (zk (k := k) (a := 1) hk (by decide)) (zk (k := n) (a := 6) hn (by decide)) kk)
      · refine z_if_eqF (tgt := 1292) E dL_law_1287 rfl c17 ?_
        cases e
  · refine z_icmp_eqF (tgt := 1275) E dL_law_1270 rfl c13 ?_
    cases e
noncomputable def f_L_case20 (h : PH) (v0 : Nat) (v1 : Nat) (v2 : Nat) (v3 : Nat) (v4 : Nat) (v5 : Int32) : Option PH :=
  (alI .int h v0 (v5 + (1 : Int32))).bind fun x1 =>
  (f_L_room h v1 x1 v3).bind fun p3 =>
  (alI .int p3.2 v0 (v5 + (1 : Int32))).bind fun x5 =>
  (gd p3.2 v2 12).bind fun _ =>
  (f_X10_room p3.2 v2 x5).bind fun p8 =>
  (gd p8.2 v2 12).bind fun _ =>
  (f_X10_thrown p8.2 v2).bind fun p11 =>
  if p11 = p3.1 then
    if ¬ p3.1 = 0 then
      some p8.2
    else
      (alL p8.2 v3 (0 : Int32)).bind fun x15 =>
      if (lg_cmp x15 p8.1.toInt64) = 0 then
        some p8.2
      else
        none
  else
    none
theorem b_L_case20 {X : PX} (E : z_E X cL_law RL "law" 9 room_1 (some .boolean)) {k n KB NB : Nat} (hk : k + 1 ≤ KB) (hn : n + 6 ≤ NB) (hKB : KB ≤ room_1.cells) (hNB : NB ≤ room_1.slots) {h : PH} {v0 v1 v2 v3 v4 : Nat} {v5 : Int32} {s : PH} (e : f_L_case20 h v0 v1 v2 v3 v4 v5 = some s) (kk : WP X 9 KB NB 2815 [(0, .ref v0), (1, .ref v1), (2, .ref v2), (3, .ref v3), (4, .ref v4), (5, .int v5)] [] s) : WP X 9 k n 1295 [(0, .ref v0), (1, .ref v1), (2, .ref v2), (3, .ref v3), (4, .ref v4), (5, .int v5)] [] h := by
  unfold f_L_case20 at e
  refine z_aload_n E 1 dL_law_1295 rfl ?_
  refine z_aload_n E 0 dL_law_1296 rfl ?_
  refine z_iload E 5 dL_law_1297 rfl ?_
  refine z_iconst E dL_law_1299 ic_1 ?_
  refine z_iadd E dL_law_1300 ?_
  obtain ⟨x1, e2, e⟩ := ob e
  refine z_iald E dL_law_1301 e2 ?_
  refine z_aload_n E 3 dL_law_1302 rfl ?_
  obtain ⟨p3, e4, e⟩ := ob e
  refine z_kR2 (st := []) (av := [.ref v1, .int x1, .ref v3]) E (k + 1) (n + 6) (z_rSX (st := []) (av := [.ref v1, .int x1, .ref v3]) E Y_L_room k_L_227 (c_L_room (z_El E) e4) dL_law_1303 rfl rfl (by decide) (by decide) (Nat.le_trans (zk (k := k) (a := 1) hk (by decide)) hKB) (Nat.le_trans (zk (k := n) (a := 6) hn (by decide)) hNB) (Nat.zero_le _)) rfl rfl rfl ?_
  refine z_istore (lv2 := [(6, .int p3.1), (0, .ref v0), (1, .ref v1), (2, .ref v2), (3, .ref v3), (4, .ref v4), (5, .int v5)]) E dL_law_1306 (by decide) rfl ?_
  refine z_aload_n E 3 dL_law_1308 rfl ?_
  refine z_aload_n E 1 dL_law_1309 rfl ?_
  refine z_iload E 6 dL_law_1310 rfl ?_
  refine z_iconst E dL_law_1312 ic_1 ?_
  refine z_iadd E dL_law_1313 ?_
  obtain ⟨x5, e6, e⟩ := ob e
  refine z_iald E dL_law_1314 e6 ?_
  obtain ⟨_, e7, e⟩ := ob e
  obtain ⟨p8, e9, e⟩ := ob e
  refine z_kR2 (st := []) (av := [.ref v2, .int x5]) E (k + 1) (n + 6) (z_rV (st := []) (av := [.int x5]) E Y_X10_room k_L_229 (ci := 12) rfl (c_X10_room (z_El E) e9) dL_law_1315 e7 rfl rfl (by decide) (by decide) (Nat.le_trans (zk (k := k) (a := 1) hk (by decide)) hKB) (Nat.le_trans (zk (k := n) (a := 6) hn (by decide)) hNB) (Nat.zero_le _)) rfl rfl rfl ?_
  refine z_istore (lv2 := [(7, .int p8.1), (6, .int p3.1), (0, .ref v0), (1, .ref v1), (2, .ref v2), (3, .ref v3), (4, .ref v4), (5, .int v5)]) E dL_law_1318 (by decide) rfl ?_
  refine z_aload_n E 4 dL_law_1320 rfl ?_
  obtain ⟨_, e10, e⟩ := ob e
  obtain ⟨p11, e12, e⟩ := ob e
  refine z_kR2 (st := []) (av := [.ref v2]) E (k + 1) (n + 6) (z_rV (st := []) (av := []) E Y_X10_thrown k_L_161 (ci := 12) rfl (c_X10_thrown (z_El E) e12) dL_law_1321 e10 rfl rfl (by decide) (by decide) (Nat.le_trans (zk (k := k) (a := 1) hk (by decide)) hKB) (Nat.le_trans (zk (k := n) (a := 6) hn (by decide)) hNB) (Nat.zero_le _)) rfl rfl rfl ?_
  refine z_iload E 1 dL_law_1324 rfl ?_
  rcases oi e with ⟨c13, e⟩ | ⟨c13, e⟩
  · refine z_icmp_eqT (tgt := 1331) E dL_law_1326 rfl c13 ?_
    refine z_iload E 1 dL_law_1331 rfl ?_
    rcases oi e with ⟨c14, e⟩ | ⟨c14, e⟩
    · refine z_if_neT (tgt := 1348) E dL_law_1333 rfl c14 ?_
      refine z_goto (tgt := 2815) E dL_law_1348 rfl ?_
      obtain rfl := Option.some.inj e
      exact z_sub [2, 3, 4, 5, 6, 7] rfl (z_wide (zk (k := k) (a := 1) hk (by decide)) (zk (k := n) (a := 6) hn (by decide)) kk)
    · refine z_if_neF (tgt := 1348) E dL_law_1333 rfl (Classical.not_not.mp c14) ?_
      refine z_aload_n E 5 dL_law_1336 rfl ?_
      refine z_iconst E dL_law_1337 ic_0 ?_
      obtain ⟨x15, e16, e⟩ := ob e
      refine z_lald E dL_law_1338 e16 ?_
      refine z_iload E 0 dL_law_1339 rfl ?_
      refine z_i2l (v := p8.1.toInt64) E dL_law_1341 rfl ?_
      refine z_lcmp E dL_law_1342 ?_
      rcases oi e with ⟨c17, e⟩ | ⟨c17, e⟩
      · refine z_if_eqT (tgt := 1348) E dL_law_1343 rfl c17 ?_
        refine z_goto (tgt := 2815) E dL_law_1348 rfl ?_
        obtain rfl := Option.some.inj e
        exact z_sub [2, 3, 4, 5, 6, 7] rfl (z_wide (zk (k := k) (a := 1) hk (by decide)) (zk (k := n) (a := 6) hn (by decide)) kk)
      · refine z_if_eqF (tgt := 1348) E dL_law_1343 rfl c17 ?_
        cases e
  · refine z_icmp_eqF (tgt := 1331) E dL_law_1326 rfl c13 ?_
    cases e
noncomputable def f_L_case21 (h : PH) (v0 : Nat) (v1 : Nat) (v2 : Nat) (v3 : Nat) (v4 : Nat) (v5 : Int32) : Option PH :=
  (alI .int h v0 (v5 + (1 : Int32))).bind fun x1 =>
  (f_L_floatingOn h v1 x1 v3).bind fun p3 =>
  (alI .int p3.2 v0 (v5 + (1 : Int32))).bind fun x5 =>
  (gd p3.2 v2 12).bind fun _ =>
  (f_X10_floatingOn p3.2 v2 x5).bind fun p8 =>
  (gd p8.2 v2 12).bind fun _ =>
  (f_X10_thrown p8.2 v2).bind fun p11 =>
  if p11 = p3.1 then
    if ¬ p3.1 = 0 then
      some p8.2
    else
      (alL p8.2 v3 (0 : Int32)).bind fun x15 =>
      if (lg_cmp x15 p8.1.toInt64) = 0 then
        some p8.2
      else
        none
  else
    none
theorem b_L_case21 {X : PX} (E : z_E X cL_law RL "law" 9 room_1 (some .boolean)) {k n KB NB : Nat} (hk : k + 1 ≤ KB) (hn : n + 6 ≤ NB) (hKB : KB ≤ room_1.cells) (hNB : NB ≤ room_1.slots) {h : PH} {v0 v1 v2 v3 v4 : Nat} {v5 : Int32} {s : PH} (e : f_L_case21 h v0 v1 v2 v3 v4 v5 = some s) (kk : WP X 9 KB NB 2815 [(0, .ref v0), (1, .ref v1), (2, .ref v2), (3, .ref v3), (4, .ref v4), (5, .int v5)] [] s) : WP X 9 k n 1351 [(0, .ref v0), (1, .ref v1), (2, .ref v2), (3, .ref v3), (4, .ref v4), (5, .int v5)] [] h := by
  unfold f_L_case21 at e
  refine z_aload_n E 1 dL_law_1351 rfl ?_
  refine z_aload_n E 0 dL_law_1352 rfl ?_
  refine z_iload E 5 dL_law_1353 rfl ?_
  refine z_iconst E dL_law_1355 ic_1 ?_
  refine z_iadd E dL_law_1356 ?_
  obtain ⟨x1, e2, e⟩ := ob e
  refine z_iald E dL_law_1357 e2 ?_
  refine z_aload_n E 3 dL_law_1358 rfl ?_
  obtain ⟨p3, e4, e⟩ := ob e
  refine z_kR2 (st := []) (av := [.ref v1, .int x1, .ref v3]) E (k + 1) (n + 6) (z_rSX (st := []) (av := [.ref v1, .int x1, .ref v3]) E Y_L_floatingOn k_L_230 (c_L_floatingOn (z_El E) e4) dL_law_1359 rfl rfl (by decide) (by decide) (Nat.le_trans (zk (k := k) (a := 1) hk (by decide)) hKB) (Nat.le_trans (zk (k := n) (a := 6) hn (by decide)) hNB) (Nat.zero_le _)) rfl rfl rfl ?_
  refine z_istore (lv2 := [(6, .int p3.1), (0, .ref v0), (1, .ref v1), (2, .ref v2), (3, .ref v3), (4, .ref v4), (5, .int v5)]) E dL_law_1362 (by decide) rfl ?_
  refine z_aload_n E 3 dL_law_1364 rfl ?_
  refine z_aload_n E 1 dL_law_1365 rfl ?_
  refine z_iload E 6 dL_law_1366 rfl ?_
  refine z_iconst E dL_law_1368 ic_1 ?_
  refine z_iadd E dL_law_1369 ?_
  obtain ⟨x5, e6, e⟩ := ob e
  refine z_iald E dL_law_1370 e6 ?_
  obtain ⟨_, e7, e⟩ := ob e
  obtain ⟨p8, e9, e⟩ := ob e
  refine z_kR2 (st := []) (av := [.ref v2, .int x5]) E (k + 1) (n + 6) (z_rV (st := []) (av := [.int x5]) E Y_X10_floatingOn k_L_232 (ci := 12) rfl (c_X10_floatingOn (z_El E) e9) dL_law_1371 e7 rfl rfl (by decide) (by decide) (Nat.le_trans (zk (k := k) (a := 1) hk (by decide)) hKB) (Nat.le_trans (zk (k := n) (a := 6) hn (by decide)) hNB) (Nat.zero_le _)) rfl rfl rfl ?_
  refine z_istore (lv2 := [(7, .int p8.1), (6, .int p3.1), (0, .ref v0), (1, .ref v1), (2, .ref v2), (3, .ref v3), (4, .ref v4), (5, .int v5)]) E dL_law_1374 (by decide) rfl ?_
  refine z_aload_n E 4 dL_law_1376 rfl ?_
  obtain ⟨_, e10, e⟩ := ob e
  obtain ⟨p11, e12, e⟩ := ob e
  refine z_kR2 (st := []) (av := [.ref v2]) E (k + 1) (n + 6) (z_rV (st := []) (av := []) E Y_X10_thrown k_L_161 (ci := 12) rfl (c_X10_thrown (z_El E) e12) dL_law_1377 e10 rfl rfl (by decide) (by decide) (Nat.le_trans (zk (k := k) (a := 1) hk (by decide)) hKB) (Nat.le_trans (zk (k := n) (a := 6) hn (by decide)) hNB) (Nat.zero_le _)) rfl rfl rfl ?_
  refine z_iload E 1 dL_law_1380 rfl ?_
  rcases oi e with ⟨c13, e⟩ | ⟨c13, e⟩
  · refine z_icmp_eqT (tgt := 1387) E dL_law_1382 rfl c13 ?_
    refine z_iload E 1 dL_law_1387 rfl ?_
    rcases oi e with ⟨c14, e⟩ | ⟨c14, e⟩
    · refine z_if_neT (tgt := 1404) E dL_law_1389 rfl c14 ?_
      refine z_goto (tgt := 2815) E dL_law_1404 rfl ?_
      obtain rfl := Option.some.inj e
      exact z_sub [2, 3, 4, 5, 6, 7] rfl (z_wide (zk (k := k) (a := 1) hk (by decide)) (zk (k := n) (a := 6) hn (by decide)) kk)
    · refine z_if_neF (tgt := 1404) E dL_law_1389 rfl (Classical.not_not.mp c14) ?_
      refine z_aload_n E 5 dL_law_1392 rfl ?_
      refine z_iconst E dL_law_1393 ic_0 ?_
      obtain ⟨x15, e16, e⟩ := ob e
      refine z_lald E dL_law_1394 e16 ?_
      refine z_iload E 0 dL_law_1395 rfl ?_
      refine z_i2l (v := p8.1.toInt64) E dL_law_1397 rfl ?_
      refine z_lcmp E dL_law_1398 ?_
      rcases oi e with ⟨c17, e⟩ | ⟨c17, e⟩
      · refine z_if_eqT (tgt := 1404) E dL_law_1399 rfl c17 ?_
        refine z_goto (tgt := 2815) E dL_law_1404 rfl ?_
        obtain rfl := Option.some.inj e
        exact z_sub [2, 3, 4, 5, 6, 7] rfl (z_wide (zk (k := k) (a := 1) hk (by decide)) (zk (k := n) (a := 6) hn (by decide)) kk)
      · refine z_if_eqF (tgt := 1404) E dL_law_1399 rfl c17 ?_
        cases e
  · refine z_icmp_eqF (tgt := 1387) E dL_law_1382 rfl c13 ?_
    cases e
noncomputable def f_L_case22 (h : PH) (v0 : Nat) (v1 : Nat) (v2 : Nat) (v3 : Nat) (v4 : Nat) (v5 : Int32) : Option PH :=
  (alI .int h v0 (v5 + (1 : Int32))).bind fun x1 =>
  (alI .int h v0 (v5 + (2 : Int32))).bind fun x3 =>
  (alI .int h v0 (v5 + (3 : Int32))).bind fun x5 =>
  (f_L_addNet h v1 x1 x3 x5 v3).bind fun p7 =>
  (alI .int p7.2 v0 (v5 + (1 : Int32))).bind fun x9 =>
  (alI .int p7.2 v0 (v5 + (2 : Int32))).bind fun x11 =>
  (alI .int p7.2 v0 (v5 + (3 : Int32))).bind fun x13 =>
  (gd p7.2 v2 12).bind fun _ =>
  (f_X10_addNet p7.2 v2 x9 x11 x13).bind fun p16 =>
  (gd p16.2 v2 12).bind fun _ =>
  (f_X10_thrown p16.2 v2).bind fun p19 =>
  if p19 = p7.1 then
    if ¬ p7.1 = 0 then
      some p16.2
    else
      (alL p16.2 v3 (0 : Int32)).bind fun x23 =>
      if (lg_cmp x23 p16.1.toInt64) = 0 then
        some p16.2
      else
        none
  else
    none
theorem b_L_case22 {X : PX} (E : z_E X cL_law RL "law" 9 room_1 (some .boolean)) {k n KB NB : Nat} (hk : k + 12 ≤ KB) (hn : n + 117 ≤ NB) (hKB : KB ≤ room_1.cells) (hNB : NB ≤ room_1.slots) {h : PH} {v0 v1 v2 v3 v4 : Nat} {v5 : Int32} {s : PH} (e : f_L_case22 h v0 v1 v2 v3 v4 v5 = some s) (kk : WP X 9 KB NB 2815 [(0, .ref v0), (1, .ref v1), (2, .ref v2), (3, .ref v3), (4, .ref v4), (5, .int v5)] [] s) : WP X 9 k n 1407 [(0, .ref v0), (1, .ref v1), (2, .ref v2), (3, .ref v3), (4, .ref v4), (5, .int v5)] [] h := by
  unfold f_L_case22 at e
  refine z_aload_n E 1 dL_law_1407 rfl ?_
  refine z_aload_n E 0 dL_law_1408 rfl ?_
  refine z_iload E 5 dL_law_1409 rfl ?_
  refine z_iconst E dL_law_1411 ic_1 ?_
  refine z_iadd E dL_law_1412 ?_
  obtain ⟨x1, e2, e⟩ := ob e
  refine z_iald E dL_law_1413 e2 ?_
  refine z_aload_n E 0 dL_law_1414 rfl ?_
  refine z_iload E 5 dL_law_1415 rfl ?_
  refine z_iconst E dL_law_1417 ic_2 ?_
  refine z_iadd E dL_law_1418 ?_
  obtain ⟨x3, e4, e⟩ := ob e
  refine z_iald E dL_law_1419 e4 ?_
  refine z_aload_n E 0 dL_law_1420 rfl ?_
  refine z_iload E 5 dL_law_1421 rfl ?_
  refine z_iconst E dL_law_1423 ic_3 ?_
  refine z_iadd E dL_law_1424 ?_
  obtain ⟨x5, e6, e⟩ := ob e
  refine z_iald E dL_law_1425 e6 ?_
  refine z_aload_n E 3 dL_law_1426 rfl ?_
  obtain ⟨p7, e8, e⟩ := ob e
  refine z_kR2 (st := []) (av := [.ref v1, .int x1, .int x3, .int x5, .ref v3]) E (k + 12) (n + 117) (z_rSX (st := []) (av := [.ref v1, .int x1, .int x3, .int x5, .ref v3]) E Y_L_addNet k_L_233 (c_L_addNet (z_El E) e8) dL_law_1427 rfl rfl (by decide) (by decide) (Nat.le_trans (zk (k := k) (a := 12) hk (by decide)) hKB) (Nat.le_trans (zk (k := n) (a := 117) hn (by decide)) hNB) (Nat.zero_le _)) rfl rfl rfl ?_
  refine z_istore (lv2 := [(6, .int p7.1), (0, .ref v0), (1, .ref v1), (2, .ref v2), (3, .ref v3), (4, .ref v4), (5, .int v5)]) E dL_law_1430 (by decide) rfl ?_
  refine z_aload_n E 3 dL_law_1432 rfl ?_
  refine z_aload_n E 1 dL_law_1433 rfl ?_
  refine z_iload E 6 dL_law_1434 rfl ?_
  refine z_iconst E dL_law_1436 ic_1 ?_
  refine z_iadd E dL_law_1437 ?_
  obtain ⟨x9, e10, e⟩ := ob e
  refine z_iald E dL_law_1438 e10 ?_
  refine z_aload_n E 1 dL_law_1439 rfl ?_
  refine z_iload E 6 dL_law_1440 rfl ?_
  refine z_iconst E dL_law_1442 ic_2 ?_
  refine z_iadd E dL_law_1443 ?_
  obtain ⟨x11, e12, e⟩ := ob e
  refine z_iald E dL_law_1444 e12 ?_
  refine z_aload_n E 1 dL_law_1445 rfl ?_
  refine z_iload E 6 dL_law_1446 rfl ?_
  refine z_iconst E dL_law_1448 ic_3 ?_
  refine z_iadd E dL_law_1449 ?_
  obtain ⟨x13, e14, e⟩ := ob e
  refine z_iald E dL_law_1450 e14 ?_
  obtain ⟨_, e15, e⟩ := ob e
  obtain ⟨p16, e17, e⟩ := ob e
  refine z_kR2 (st := []) (av := [.ref v2, .int x9, .int x11, .int x13]) E (k + 12) (n + 117) (z_rV (st := []) (av := [.int x9, .int x11, .int x13]) E Y_X10_addNet k_L_236 (ci := 12) rfl (c_X10_addNet (z_El E) e17) dL_law_1451 e15 rfl rfl (by decide) (by decide) (Nat.le_trans (zk (k := k) (a := 12) hk (by decide)) hKB) (Nat.le_trans (zk (k := n) (a := 117) hn (by decide)) hNB) (Nat.zero_le _)) rfl rfl rfl ?_
  refine z_istore (lv2 := [(7, .int p16.1), (6, .int p7.1), (0, .ref v0), (1, .ref v1), (2, .ref v2), (3, .ref v3), (4, .ref v4), (5, .int v5)]) E dL_law_1454 (by decide) rfl ?_
  refine z_aload_n E 4 dL_law_1456 rfl ?_
  obtain ⟨_, e18, e⟩ := ob e
  obtain ⟨p19, e20, e⟩ := ob e
  refine z_kR2 (st := []) (av := [.ref v2]) E (k + 12) (n + 117) (z_rV (st := []) (av := []) E Y_X10_thrown k_L_161 (ci := 12) rfl (c_X10_thrown (z_El E) e20) dL_law_1457 e18 rfl rfl (by decide) (by decide) (Nat.le_trans (zk (k := k) (a := 12) hk (by decide)) hKB) (Nat.le_trans (zk (k := n) (a := 117) hn (by decide)) hNB) (Nat.zero_le _)) rfl rfl rfl ?_
  refine z_iload E 1 dL_law_1460 rfl ?_
  rcases oi e with ⟨c21, e⟩ | ⟨c21, e⟩
  · refine z_icmp_eqT (tgt := 1467) E dL_law_1462 rfl c21 ?_
    refine z_iload E 1 dL_law_1467 rfl ?_
    rcases oi e with ⟨c22, e⟩ | ⟨c22, e⟩
    · refine z_if_neT (tgt := 1484) E dL_law_1469 rfl c22 ?_
      refine z_goto (tgt := 2815) E dL_law_1484 rfl ?_
      obtain rfl := Option.some.inj e
      exact z_sub [2, 3, 4, 5, 6, 7] rfl (z_wide (zk (k := k) (a := 12) hk (by decide)) (zk (k := n) (a := 117) hn (by decide)) kk)
    · refine z_if_neF (tgt := 1484) E dL_law_1469 rfl (Classical.not_not.mp c22) ?_
      refine z_aload_n E 5 dL_law_1472 rfl ?_
      refine z_iconst E dL_law_1473 ic_0 ?_
      obtain ⟨x23, e24, e⟩ := ob e
      refine z_lald E dL_law_1474 e24 ?_
      refine z_iload E 0 dL_law_1475 rfl ?_
      refine z_i2l (v := p16.1.toInt64) E dL_law_1477 rfl ?_
      refine z_lcmp E dL_law_1478 ?_
      rcases oi e with ⟨c25, e⟩ | ⟨c25, e⟩
      · refine z_if_eqT (tgt := 1484) E dL_law_1479 rfl c25 ?_
        refine z_goto (tgt := 2815) E dL_law_1484 rfl ?_
        obtain rfl := Option.some.inj e
        exact z_sub [2, 3, 4, 5, 6, 7] rfl (z_wide (zk (k := k) (a := 12) hk (by decide)) (zk (k := n) (a := 117) hn (by decide)) kk)
      · refine z_if_eqF (tgt := 1484) E dL_law_1479 rfl c25 ?_
        cases e
  · refine z_icmp_eqF (tgt := 1467) E dL_law_1462 rfl c21 ?_
    cases e
noncomputable def f_L_case23 (h : PH) (v0 : Nat) (v1 : Nat) (v2 : Nat) (v3 : Nat) (v4 : Nat) (v5 : Int32) : Option PH :=
  (alI .int h v0 (v5 + (1 : Int32))).bind fun x1 =>
  (f_L_removeNet h v1 x1 v3).bind fun p3 =>
  (alI .int p3.2 v0 (v5 + (1 : Int32))).bind fun x5 =>
  (gd p3.2 v2 12).bind fun _ =>
  (f_X10_removeNet p3.2 v2 x5).bind fun p8 =>
  (gd p8.2 v2 12).bind fun _ =>
  (f_X10_thrown p8.2 v2).bind fun p11 =>
  if p11 = p3.1 then
    if ¬ p3.1 = 0 then
      some p8.2
    else
      (alL p8.2 v3 (0 : Int32)).bind fun x15 =>
      if (lg_cmp x15 p8.1.toInt64) = 0 then
        some p8.2
      else
        none
  else
    none
theorem b_L_case23 {X : PX} (E : z_E X cL_law RL "law" 9 room_1 (some .boolean)) {k n KB NB : Nat} (hk : k + 12 ≤ KB) (hn : n + 117 ≤ NB) (hKB : KB ≤ room_1.cells) (hNB : NB ≤ room_1.slots) {h : PH} {v0 v1 v2 v3 v4 : Nat} {v5 : Int32} {s : PH} (e : f_L_case23 h v0 v1 v2 v3 v4 v5 = some s) (kk : WP X 9 KB NB 2815 [(0, .ref v0), (1, .ref v1), (2, .ref v2), (3, .ref v3), (4, .ref v4), (5, .int v5)] [] s) : WP X 9 k n 1487 [(0, .ref v0), (1, .ref v1), (2, .ref v2), (3, .ref v3), (4, .ref v4), (5, .int v5)] [] h := by
  unfold f_L_case23 at e
  refine z_aload_n E 1 dL_law_1487 rfl ?_
  refine z_aload_n E 0 dL_law_1488 rfl ?_
  refine z_iload E 5 dL_law_1489 rfl ?_
  refine z_iconst E dL_law_1491 ic_1 ?_
  refine z_iadd E dL_law_1492 ?_
  obtain ⟨x1, e2, e⟩ := ob e
  refine z_iald E dL_law_1493 e2 ?_
  refine z_aload_n E 3 dL_law_1494 rfl ?_
  obtain ⟨p3, e4, e⟩ := ob e
  refine z_kR2 (st := []) (av := [.ref v1, .int x1, .ref v3]) E (k + 12) (n + 117) (z_rSX (st := []) (av := [.ref v1, .int x1, .ref v3]) E Y_L_removeNet k_L_237 (c_L_removeNet (z_El E) e4) dL_law_1495 rfl rfl (by decide) (by decide) (Nat.le_trans (zk (k := k) (a := 12) hk (by decide)) hKB) (Nat.le_trans (zk (k := n) (a := 117) hn (by decide)) hNB) (Nat.zero_le _)) rfl rfl rfl ?_
  refine z_istore (lv2 := [(6, .int p3.1), (0, .ref v0), (1, .ref v1), (2, .ref v2), (3, .ref v3), (4, .ref v4), (5, .int v5)]) E dL_law_1498 (by decide) rfl ?_
  refine z_aload_n E 3 dL_law_1500 rfl ?_
  refine z_aload_n E 1 dL_law_1501 rfl ?_
  refine z_iload E 6 dL_law_1502 rfl ?_
  refine z_iconst E dL_law_1504 ic_1 ?_
  refine z_iadd E dL_law_1505 ?_
  obtain ⟨x5, e6, e⟩ := ob e
  refine z_iald E dL_law_1506 e6 ?_
  obtain ⟨_, e7, e⟩ := ob e
  obtain ⟨p8, e9, e⟩ := ob e
  refine z_kR2 (st := []) (av := [.ref v2, .int x5]) E (k + 12) (n + 117) (z_rV (st := []) (av := [.int x5]) E Y_X10_removeNet k_L_239 (ci := 12) rfl (c_X10_removeNet (z_El E) e9) dL_law_1507 e7 rfl rfl (by decide) (by decide) (Nat.le_trans (zk (k := k) (a := 12) hk (by decide)) hKB) (Nat.le_trans (zk (k := n) (a := 117) hn (by decide)) hNB) (Nat.zero_le _)) rfl rfl rfl ?_
  refine z_istore (lv2 := [(7, .int p8.1), (6, .int p3.1), (0, .ref v0), (1, .ref v1), (2, .ref v2), (3, .ref v3), (4, .ref v4), (5, .int v5)]) E dL_law_1510 (by decide) rfl ?_
  refine z_aload_n E 4 dL_law_1512 rfl ?_
  obtain ⟨_, e10, e⟩ := ob e
  obtain ⟨p11, e12, e⟩ := ob e
  refine z_kR2 (st := []) (av := [.ref v2]) E (k + 12) (n + 117) (z_rV (st := []) (av := []) E Y_X10_thrown k_L_161 (ci := 12) rfl (c_X10_thrown (z_El E) e12) dL_law_1513 e10 rfl rfl (by decide) (by decide) (Nat.le_trans (zk (k := k) (a := 12) hk (by decide)) hKB) (Nat.le_trans (zk (k := n) (a := 117) hn (by decide)) hNB) (Nat.zero_le _)) rfl rfl rfl ?_
  refine z_iload E 1 dL_law_1516 rfl ?_
  rcases oi e with ⟨c13, e⟩ | ⟨c13, e⟩
  · refine z_icmp_eqT (tgt := 1523) E dL_law_1518 rfl c13 ?_
    refine z_iload E 1 dL_law_1523 rfl ?_
    rcases oi e with ⟨c14, e⟩ | ⟨c14, e⟩
    · refine z_if_neT (tgt := 1540) E dL_law_1525 rfl c14 ?_
      refine z_goto (tgt := 2815) E dL_law_1540 rfl ?_
      obtain rfl := Option.some.inj e
      exact z_sub [2, 3, 4, 5, 6, 7] rfl (z_wide (zk (k := k) (a := 12) hk (by decide)) (zk (k := n) (a := 117) hn (by decide)) kk)
    · refine z_if_neF (tgt := 1540) E dL_law_1525 rfl (Classical.not_not.mp c14) ?_
      refine z_aload_n E 5 dL_law_1528 rfl ?_
      refine z_iconst E dL_law_1529 ic_0 ?_
      obtain ⟨x15, e16, e⟩ := ob e
      refine z_lald E dL_law_1530 e16 ?_
      refine z_iload E 0 dL_law_1531 rfl ?_
      refine z_i2l (v := p8.1.toInt64) E dL_law_1533 rfl ?_
      refine z_lcmp E dL_law_1534 ?_
      rcases oi e with ⟨c17, e⟩ | ⟨c17, e⟩
      · refine z_if_eqT (tgt := 1540) E dL_law_1535 rfl c17 ?_
        refine z_goto (tgt := 2815) E dL_law_1540 rfl ?_
        obtain rfl := Option.some.inj e
        exact z_sub [2, 3, 4, 5, 6, 7] rfl (z_wide (zk (k := k) (a := 12) hk (by decide)) (zk (k := n) (a := 117) hn (by decide)) kk)
      · refine z_if_eqF (tgt := 1540) E dL_law_1535 rfl c17 ?_
        cases e
  · refine z_icmp_eqF (tgt := 1523) E dL_law_1518 rfl c13 ?_
    cases e
noncomputable def f_L_case24 (h : PH) (v0 : Nat) (v1 : Nat) (v2 : Nat) (v3 : Nat) (v4 : Nat) (v5 : Int32) : Option PH :=
  (alI .int h v0 (v5 + (1 : Int32))).bind fun x1 =>
  (f_L_haul h v1 x1 v3).bind fun p3 =>
  (alI .int p3.2 v0 (v5 + (1 : Int32))).bind fun x5 =>
  (gd p3.2 v2 12).bind fun _ =>
  (f_X10_haul p3.2 v2 x5).bind fun p8 =>
  (gd p8.2 v2 12).bind fun _ =>
  (f_X10_thrown p8.2 v2).bind fun p11 =>
  if p11 = p3.1 then
    if ¬ p3.1 = 0 then
      some p8.2
    else
      (alL p8.2 v3 (0 : Int32)).bind fun x15 =>
      if (lg_cmp x15 p8.1.toInt64) = 0 then
        some p8.2
      else
        none
  else
    none
theorem b_L_case24 {X : PX} (E : z_E X cL_law RL "law" 9 room_1 (some .boolean)) {k n KB NB : Nat} (hk : k + 12 ≤ KB) (hn : n + 117 ≤ NB) (hKB : KB ≤ room_1.cells) (hNB : NB ≤ room_1.slots) {h : PH} {v0 v1 v2 v3 v4 : Nat} {v5 : Int32} {s : PH} (e : f_L_case24 h v0 v1 v2 v3 v4 v5 = some s) (kk : WP X 9 KB NB 2815 [(0, .ref v0), (1, .ref v1), (2, .ref v2), (3, .ref v3), (4, .ref v4), (5, .int v5)] [] s) : WP X 9 k n 1543 [(0, .ref v0), (1, .ref v1), (2, .ref v2), (3, .ref v3), (4, .ref v4), (5, .int v5)] [] h := by
  unfold f_L_case24 at e
  refine z_aload_n E 1 dL_law_1543 rfl ?_
  refine z_aload_n E 0 dL_law_1544 rfl ?_
  refine z_iload E 5 dL_law_1545 rfl ?_
  refine z_iconst E dL_law_1547 ic_1 ?_
  refine z_iadd E dL_law_1548 ?_
  obtain ⟨x1, e2, e⟩ := ob e
  refine z_iald E dL_law_1549 e2 ?_
  refine z_aload_n E 3 dL_law_1550 rfl ?_
  obtain ⟨p3, e4, e⟩ := ob e
  refine z_kR2 (st := []) (av := [.ref v1, .int x1, .ref v3]) E (k + 12) (n + 117) (z_rSX (st := []) (av := [.ref v1, .int x1, .ref v3]) E Y_L_haul k_L_240 (c_L_haul (z_El E) e4) dL_law_1551 rfl rfl (by decide) (by decide) (Nat.le_trans (zk (k := k) (a := 12) hk (by decide)) hKB) (Nat.le_trans (zk (k := n) (a := 117) hn (by decide)) hNB) (Nat.zero_le _)) rfl rfl rfl ?_
  refine z_istore (lv2 := [(6, .int p3.1), (0, .ref v0), (1, .ref v1), (2, .ref v2), (3, .ref v3), (4, .ref v4), (5, .int v5)]) E dL_law_1554 (by decide) rfl ?_
  refine z_aload_n E 3 dL_law_1556 rfl ?_
  refine z_aload_n E 1 dL_law_1557 rfl ?_
  refine z_iload E 6 dL_law_1558 rfl ?_
  refine z_iconst E dL_law_1560 ic_1 ?_
  refine z_iadd E dL_law_1561 ?_
  obtain ⟨x5, e6, e⟩ := ob e
  refine z_iald E dL_law_1562 e6 ?_
  obtain ⟨_, e7, e⟩ := ob e
  obtain ⟨p8, e9, e⟩ := ob e
  refine z_kR2 (st := []) (av := [.ref v2, .int x5]) E (k + 12) (n + 117) (z_rV (st := []) (av := [.int x5]) E Y_X10_haul k_L_242 (ci := 12) rfl (c_X10_haul (z_El E) e9) dL_law_1563 e7 rfl rfl (by decide) (by decide) (Nat.le_trans (zk (k := k) (a := 12) hk (by decide)) hKB) (Nat.le_trans (zk (k := n) (a := 117) hn (by decide)) hNB) (Nat.zero_le _)) rfl rfl rfl ?_
  refine z_istore (lv2 := [(7, .int p8.1), (6, .int p3.1), (0, .ref v0), (1, .ref v1), (2, .ref v2), (3, .ref v3), (4, .ref v4), (5, .int v5)]) E dL_law_1566 (by decide) rfl ?_
  refine z_aload_n E 4 dL_law_1568 rfl ?_
  obtain ⟨_, e10, e⟩ := ob e
  obtain ⟨p11, e12, e⟩ := ob e
  refine z_kR2 (st := []) (av := [.ref v2]) E (k + 12) (n + 117) (z_rV (st := []) (av := []) E Y_X10_thrown k_L_161 (ci := 12) rfl (c_X10_thrown (z_El E) e12) dL_law_1569 e10 rfl rfl (by decide) (by decide) (Nat.le_trans (zk (k := k) (a := 12) hk (by decide)) hKB) (Nat.le_trans (zk (k := n) (a := 117) hn (by decide)) hNB) (Nat.zero_le _)) rfl rfl rfl ?_
  refine z_iload E 1 dL_law_1572 rfl ?_
  rcases oi e with ⟨c13, e⟩ | ⟨c13, e⟩
  · refine z_icmp_eqT (tgt := 1579) E dL_law_1574 rfl c13 ?_
    refine z_iload E 1 dL_law_1579 rfl ?_
    rcases oi e with ⟨c14, e⟩ | ⟨c14, e⟩
    · refine z_if_neT (tgt := 1596) E dL_law_1581 rfl c14 ?_
      refine z_goto (tgt := 2815) E dL_law_1596 rfl ?_
      obtain rfl := Option.some.inj e
      exact z_sub [2, 3, 4, 5, 6, 7] rfl (z_wide (zk (k := k) (a := 12) hk (by decide)) (zk (k := n) (a := 117) hn (by decide)) kk)
    · refine z_if_neF (tgt := 1596) E dL_law_1581 rfl (Classical.not_not.mp c14) ?_
      refine z_aload_n E 5 dL_law_1584 rfl ?_
      refine z_iconst E dL_law_1585 ic_0 ?_
      obtain ⟨x15, e16, e⟩ := ob e
      refine z_lald E dL_law_1586 e16 ?_
      refine z_iload E 0 dL_law_1587 rfl ?_
      refine z_i2l (v := p8.1.toInt64) E dL_law_1589 rfl ?_
      refine z_lcmp E dL_law_1590 ?_
      rcases oi e with ⟨c17, e⟩ | ⟨c17, e⟩
      · refine z_if_eqT (tgt := 1596) E dL_law_1591 rfl c17 ?_
        refine z_goto (tgt := 2815) E dL_law_1596 rfl ?_
        obtain rfl := Option.some.inj e
        exact z_sub [2, 3, 4, 5, 6, 7] rfl (z_wide (zk (k := k) (a := 12) hk (by decide)) (zk (k := n) (a := 117) hn (by decide)) kk)
      · refine z_if_eqF (tgt := 1596) E dL_law_1591 rfl c17 ?_
        cases e
  · refine z_icmp_eqF (tgt := 1579) E dL_law_1574 rfl c13 ?_
    cases e
noncomputable def f_L_case25 (h : PH) (v0 : Nat) (v1 : Nat) (v2 : Nat) (v3 : Nat) (v4 : Nat) (v5 : Int32) : Option PH :=
  (gd h v1 11).bind fun _ =>
  (f_X9_netCount h v1).bind fun p2 =>
  (gd h v2 12).bind fun _ =>
  (f_X10_netCount h v2).bind fun p5 =>
  if p2 = p5.1 then
    some p5.2
  else
    none
theorem b_L_case25 {X : PX} (E : z_E X cL_law RL "law" 9 room_1 (some .boolean)) {k n KB NB : Nat} (hk : k + 0 ≤ KB) (hn : n + 0 ≤ NB) (hKB : KB ≤ room_1.cells) (hNB : NB ≤ room_1.slots) {h : PH} {v0 v1 v2 v3 v4 : Nat} {v5 : Int32} {s : PH} (e : f_L_case25 h v0 v1 v2 v3 v4 v5 = some s) (kk : WP X 9 KB NB 2815 [(0, .ref v0), (1, .ref v1), (2, .ref v2), (3, .ref v3), (4, .ref v4), (5, .int v5)] [] s) : WP X 9 k n 1599 [(0, .ref v0), (1, .ref v1), (2, .ref v2), (3, .ref v3), (4, .ref v4), (5, .int v5)] [] h := by
  unfold f_L_case25 at e
  refine z_aload_n E 1 dL_law_1599 rfl ?_
  obtain ⟨_, e1, e⟩ := ob e
  obtain ⟨p2, e3, e⟩ := ob e
  refine z_kR2 (st := []) (av := [.ref v1]) E k n (z_rV (st := []) (av := []) E Y_X9_netCount k_L_243 (ci := 11) rfl (c_X9_netCount (z_El E) e3) dL_law_1600 e1 rfl rfl (by decide) (by decide) (Nat.le_trans (zk (k := k) (a := 0) hk (by decide)) hKB) (Nat.le_trans (zk (k := n) (a := 0) hn (by decide)) hNB) (Nat.zero_le _)) rfl rfl rfl ?_
  refine z_aload_n E 2 dL_law_1603 rfl ?_
  obtain ⟨_, e4, e⟩ := ob e
  obtain ⟨p5, e6, e⟩ := ob e
  refine z_kR2 (st := [.int p2]) (av := [.ref v2]) E k n (z_rV (st := [.int p2]) (av := []) E Y_X10_netCount k_L_246 (ci := 12) rfl (c_X10_netCount (z_El E) e6) dL_law_1604 e4 rfl rfl (by decide) (by decide) (Nat.le_trans (zk (k := k) (a := 0) hk (by decide)) hKB) (Nat.le_trans (zk (k := n) (a := 0) hn (by decide)) hNB) (Nat.le_of_ble_eq_true rfl)) rfl rfl rfl ?_
  rcases oi e with ⟨c7, e⟩ | ⟨c7, e⟩
  · refine z_icmp_eqT (tgt := 2815) E dL_law_1607 rfl c7 ?_
    obtain rfl := Option.some.inj e
    exact z_sub [0, 1, 2, 3, 4, 5] rfl (z_wide (zk (k := k) (a := 0) hk (by decide)) (zk (k := n) (a := 0) hn (by decide)) kk)
  · refine z_icmp_eqF (tgt := 2815) E dL_law_1607 rfl c7 ?_
    cases e
noncomputable def f_L_case26 (h : PH) (v0 : Nat) (v1 : Nat) (v2 : Nat) (v3 : Nat) (v4 : Nat) (v5 : Int32) : Option PH :=
  (alI .int h v0 (v5 + (1 : Int32))).bind fun x1 =>
  (alI .int h v0 (v5 + (2 : Int32))).bind fun x3 =>
  (f_L_covers h v1 x1 x3 v3).bind fun p5 =>
  (alI .int p5.2 v0 (v5 + (1 : Int32))).bind fun x7 =>
  (alI .int p5.2 v0 (v5 + (2 : Int32))).bind fun x9 =>
  (gd p5.2 v2 12).bind fun _ =>
  (f_X10_covers p5.2 v2 x7 x9).bind fun p12 =>
  (gd p12.2 v2 12).bind fun _ =>
  (f_X10_thrown p12.2 v2).bind fun p15 =>
  if p15 = p5.1 then
    if ¬ p5.1 = 0 then
      some p12.2
    else
      (alL p12.2 v3 (0 : Int32)).bind fun x19 =>
      if p12.1 = false then
        if (lg_cmp x19 (0 : Int64)) = 0 then
          some p12.2
        else
          none
      else
        if (lg_cmp x19 (1 : Int64)) = 0 then
          some p12.2
        else
          none
  else
    none
theorem b_L_case26 {X : PX} (E : z_E X cL_law RL "law" 9 room_1 (some .boolean)) {k n KB NB : Nat} (hk : k + 2 ≤ KB) (hn : n + 12 ≤ NB) (hKB : KB ≤ room_1.cells) (hNB : NB ≤ room_1.slots) {h : PH} {v0 v1 v2 v3 v4 : Nat} {v5 : Int32} {s : PH} (e : f_L_case26 h v0 v1 v2 v3 v4 v5 = some s) (kk : WP X 9 KB NB 2815 [(0, .ref v0), (1, .ref v1), (2, .ref v2), (3, .ref v3), (4, .ref v4), (5, .int v5)] [] s) : WP X 9 k n 1612 [(0, .ref v0), (1, .ref v1), (2, .ref v2), (3, .ref v3), (4, .ref v4), (5, .int v5)] [] h := by
  unfold f_L_case26 at e
  refine z_aload_n E 1 dL_law_1612 rfl ?_
  refine z_aload_n E 0 dL_law_1613 rfl ?_
  refine z_iload E 5 dL_law_1614 rfl ?_
  refine z_iconst E dL_law_1616 ic_1 ?_
  refine z_iadd E dL_law_1617 ?_
  obtain ⟨x1, e2, e⟩ := ob e
  refine z_iald E dL_law_1618 e2 ?_
  refine z_aload_n E 0 dL_law_1619 rfl ?_
  refine z_iload E 5 dL_law_1620 rfl ?_
  refine z_iconst E dL_law_1622 ic_2 ?_
  refine z_iadd E dL_law_1623 ?_
  obtain ⟨x3, e4, e⟩ := ob e
  refine z_iald E dL_law_1624 e4 ?_
  refine z_aload_n E 3 dL_law_1625 rfl ?_
  obtain ⟨p5, e6, e⟩ := ob e
  refine z_kR2 (st := []) (av := [.ref v1, .int x1, .int x3, .ref v3]) E (k + 2) (n + 12) (z_rSX (st := []) (av := [.ref v1, .int x1, .int x3, .ref v3]) E Y_L_covers k_L_247 (c_L_covers (z_El E) e6) dL_law_1626 rfl rfl (by decide) (by decide) (Nat.le_trans (zk (k := k) (a := 2) hk (by decide)) hKB) (Nat.le_trans (zk (k := n) (a := 12) hn (by decide)) hNB) (Nat.zero_le _)) rfl rfl rfl ?_
  refine z_istore (lv2 := [(6, .int p5.1), (0, .ref v0), (1, .ref v1), (2, .ref v2), (3, .ref v3), (4, .ref v4), (5, .int v5)]) E dL_law_1629 (by decide) rfl ?_
  refine z_aload_n E 3 dL_law_1631 rfl ?_
  refine z_aload_n E 1 dL_law_1632 rfl ?_
  refine z_iload E 6 dL_law_1633 rfl ?_
  refine z_iconst E dL_law_1635 ic_1 ?_
  refine z_iadd E dL_law_1636 ?_
  obtain ⟨x7, e8, e⟩ := ob e
  refine z_iald E dL_law_1637 e8 ?_
  refine z_aload_n E 1 dL_law_1638 rfl ?_
  refine z_iload E 6 dL_law_1639 rfl ?_
  refine z_iconst E dL_law_1641 ic_2 ?_
  refine z_iadd E dL_law_1642 ?_
  obtain ⟨x9, e10, e⟩ := ob e
  refine z_iald E dL_law_1643 e10 ?_
  obtain ⟨_, e11, e⟩ := ob e
  obtain ⟨p12, e13, e⟩ := ob e
  refine z_kR2 (st := []) (av := [.ref v2, .int x7, .int x9]) E (k + 2) (n + 12) (z_rV (st := []) (av := [.int x7, .int x9]) E Y_X10_covers k_L_249 (ci := 12) rfl (c_X10_covers (z_El E) e13) dL_law_1644 e11 rfl rfl (by decide) (by decide) (Nat.le_trans (zk (k := k) (a := 2) hk (by decide)) hKB) (Nat.le_trans (zk (k := n) (a := 12) hn (by decide)) hNB) (Nat.zero_le _)) rfl rfl rfl ?_
  refine z_istore (lv2 := [(7, .int (zb p12.1)), (6, .int p5.1), (0, .ref v0), (1, .ref v1), (2, .ref v2), (3, .ref v3), (4, .ref v4), (5, .int v5)]) E dL_law_1647 (by decide) rfl ?_
  refine z_aload_n E 4 dL_law_1649 rfl ?_
  obtain ⟨_, e14, e⟩ := ob e
  obtain ⟨p15, e16, e⟩ := ob e
  refine z_kR2 (st := []) (av := [.ref v2]) E (k + 2) (n + 12) (z_rV (st := []) (av := []) E Y_X10_thrown k_L_161 (ci := 12) rfl (c_X10_thrown (z_El E) e16) dL_law_1650 e14 rfl rfl (by decide) (by decide) (Nat.le_trans (zk (k := k) (a := 2) hk (by decide)) hKB) (Nat.le_trans (zk (k := n) (a := 12) hn (by decide)) hNB) (Nat.zero_le _)) rfl rfl rfl ?_
  refine z_iload E 1 dL_law_1653 rfl ?_
  rcases oi e with ⟨c17, e⟩ | ⟨c17, e⟩
  · refine z_icmp_eqT (tgt := 1660) E dL_law_1655 rfl c17 ?_
    refine z_iload E 1 dL_law_1660 rfl ?_
    rcases oi e with ⟨c18, e⟩ | ⟨c18, e⟩
    · refine z_if_neT (tgt := 1684) E dL_law_1662 rfl c18 ?_
      refine z_goto (tgt := 2815) E dL_law_1684 rfl ?_
      obtain rfl := Option.some.inj e
      exact z_sub [2, 3, 4, 5, 6, 7] rfl (z_wide (zk (k := k) (a := 2) hk (by decide)) (zk (k := n) (a := 12) hn (by decide)) kk)
    · refine z_if_neF (tgt := 1684) E dL_law_1662 rfl (Classical.not_not.mp c18) ?_
      refine z_aload_n E 5 dL_law_1665 rfl ?_
      refine z_iconst E dL_law_1666 ic_0 ?_
      obtain ⟨x19, e20, e⟩ := ob e
      refine z_lald E dL_law_1667 e20 ?_
      refine z_iload E 0 dL_law_1668 rfl ?_
      rcases oi e with ⟨c21, e⟩ | ⟨c21, e⟩
      · refine z_if_eqT (tgt := 1677) E dL_law_1670 rfl (zb_f c21) ?_
        refine z_lconst (v := (0 : Int64)) E dL_law_1677 rfl ?_
        refine z_lcmp E dL_law_1678 ?_
        rcases oi e with ⟨c22, e⟩ | ⟨c22, e⟩
        · refine z_if_eqT (tgt := 1684) E dL_law_1679 rfl c22 ?_
          refine z_goto (tgt := 2815) E dL_law_1684 rfl ?_
          obtain rfl := Option.some.inj e
          exact z_sub [2, 3, 4, 5, 6, 7] rfl (z_wide (zk (k := k) (a := 2) hk (by decide)) (zk (k := n) (a := 12) hn (by decide)) kk)
        · refine z_if_eqF (tgt := 1684) E dL_law_1679 rfl c22 ?_
          cases e
      · refine z_if_eqF (tgt := 1677) E dL_law_1670 rfl (zb_nf c21) ?_
        refine z_lconst (v := (1 : Int64)) E dL_law_1673 rfl ?_
        refine z_goto (tgt := 1678) E dL_law_1674 rfl ?_
        refine z_lcmp E dL_law_1678 ?_
        rcases oi e with ⟨c23, e⟩ | ⟨c23, e⟩
        · refine z_if_eqT (tgt := 1684) E dL_law_1679 rfl c23 ?_
          refine z_goto (tgt := 2815) E dL_law_1684 rfl ?_
          obtain rfl := Option.some.inj e
          exact z_sub [2, 3, 4, 5, 6, 7] rfl (z_wide (zk (k := k) (a := 2) hk (by decide)) (zk (k := n) (a := 12) hn (by decide)) kk)
        · refine z_if_eqF (tgt := 1684) E dL_law_1679 rfl c23 ?_
          cases e
  · refine z_icmp_eqF (tgt := 1660) E dL_law_1655 rfl c17 ?_
    cases e
noncomputable def f_L_case27 (h : PH) (v0 : Nat) (v1 : Nat) (v2 : Nat) (v3 : Nat) (v4 : Nat) (v5 : Int32) : Option PH :=
  (alI .int h v0 (v5 + (1 : Int32))).bind fun x1 =>
  (f_L_catchSize h v1 x1 v3).bind fun p3 =>
  (alI .int p3.2 v0 (v5 + (1 : Int32))).bind fun x5 =>
  (gd p3.2 v2 12).bind fun _ =>
  (f_X10_catchSize p3.2 v2 x5).bind fun p8 =>
  (gd p8.2 v2 12).bind fun _ =>
  (f_X10_thrown p8.2 v2).bind fun p11 =>
  if p11 = p3.1 then
    if ¬ p3.1 = 0 then
      some p8.2
    else
      (alL p8.2 v3 (0 : Int32)).bind fun x15 =>
      if (lg_cmp x15 p8.1.toInt64) = 0 then
        some p8.2
      else
        none
  else
    none
theorem b_L_case27 {X : PX} (E : z_E X cL_law RL "law" 9 room_1 (some .boolean)) {k n KB NB : Nat} (hk : k + 1 ≤ KB) (hn : n + 6 ≤ NB) (hKB : KB ≤ room_1.cells) (hNB : NB ≤ room_1.slots) {h : PH} {v0 v1 v2 v3 v4 : Nat} {v5 : Int32} {s : PH} (e : f_L_case27 h v0 v1 v2 v3 v4 v5 = some s) (kk : WP X 9 KB NB 2815 [(0, .ref v0), (1, .ref v1), (2, .ref v2), (3, .ref v3), (4, .ref v4), (5, .int v5)] [] s) : WP X 9 k n 1687 [(0, .ref v0), (1, .ref v1), (2, .ref v2), (3, .ref v3), (4, .ref v4), (5, .int v5)] [] h := by
  unfold f_L_case27 at e
  refine z_aload_n E 1 dL_law_1687 rfl ?_
  refine z_aload_n E 0 dL_law_1688 rfl ?_
  refine z_iload E 5 dL_law_1689 rfl ?_
  refine z_iconst E dL_law_1691 ic_1 ?_
  refine z_iadd E dL_law_1692 ?_
  obtain ⟨x1, e2, e⟩ := ob e
  refine z_iald E dL_law_1693 e2 ?_
  refine z_aload_n E 3 dL_law_1694 rfl ?_
  obtain ⟨p3, e4, e⟩ := ob e
  refine z_kR2 (st := []) (av := [.ref v1, .int x1, .ref v3]) E (k + 1) (n + 6) (z_rSX (st := []) (av := [.ref v1, .int x1, .ref v3]) E Y_L_catchSize k_L_250 (c_L_catchSize (z_El E) e4) dL_law_1695 rfl rfl (by decide) (by decide) (Nat.le_trans (zk (k := k) (a := 1) hk (by decide)) hKB) (Nat.le_trans (zk (k := n) (a := 6) hn (by decide)) hNB) (Nat.zero_le _)) rfl rfl rfl ?_
  refine z_istore (lv2 := [(6, .int p3.1), (0, .ref v0), (1, .ref v1), (2, .ref v2), (3, .ref v3), (4, .ref v4), (5, .int v5)]) E dL_law_1698 (by decide) rfl ?_
  refine z_aload_n E 3 dL_law_1700 rfl ?_
  refine z_aload_n E 1 dL_law_1701 rfl ?_
  refine z_iload E 6 dL_law_1702 rfl ?_
  refine z_iconst E dL_law_1704 ic_1 ?_
  refine z_iadd E dL_law_1705 ?_
  obtain ⟨x5, e6, e⟩ := ob e
  refine z_iald E dL_law_1706 e6 ?_
  obtain ⟨_, e7, e⟩ := ob e
  obtain ⟨p8, e9, e⟩ := ob e
  refine z_kR2 (st := []) (av := [.ref v2, .int x5]) E (k + 1) (n + 6) (z_rV (st := []) (av := [.int x5]) E Y_X10_catchSize k_L_252 (ci := 12) rfl (c_X10_catchSize (z_El E) e9) dL_law_1707 e7 rfl rfl (by decide) (by decide) (Nat.le_trans (zk (k := k) (a := 1) hk (by decide)) hKB) (Nat.le_trans (zk (k := n) (a := 6) hn (by decide)) hNB) (Nat.zero_le _)) rfl rfl rfl ?_
  refine z_istore (lv2 := [(7, .int p8.1), (6, .int p3.1), (0, .ref v0), (1, .ref v1), (2, .ref v2), (3, .ref v3), (4, .ref v4), (5, .int v5)]) E dL_law_1710 (by decide) rfl ?_
  refine z_aload_n E 4 dL_law_1712 rfl ?_
  obtain ⟨_, e10, e⟩ := ob e
  obtain ⟨p11, e12, e⟩ := ob e
  refine z_kR2 (st := []) (av := [.ref v2]) E (k + 1) (n + 6) (z_rV (st := []) (av := []) E Y_X10_thrown k_L_161 (ci := 12) rfl (c_X10_thrown (z_El E) e12) dL_law_1713 e10 rfl rfl (by decide) (by decide) (Nat.le_trans (zk (k := k) (a := 1) hk (by decide)) hKB) (Nat.le_trans (zk (k := n) (a := 6) hn (by decide)) hNB) (Nat.zero_le _)) rfl rfl rfl ?_
  refine z_iload E 1 dL_law_1716 rfl ?_
  rcases oi e with ⟨c13, e⟩ | ⟨c13, e⟩
  · refine z_icmp_eqT (tgt := 1723) E dL_law_1718 rfl c13 ?_
    refine z_iload E 1 dL_law_1723 rfl ?_
    rcases oi e with ⟨c14, e⟩ | ⟨c14, e⟩
    · refine z_if_neT (tgt := 1740) E dL_law_1725 rfl c14 ?_
      refine z_goto (tgt := 2815) E dL_law_1740 rfl ?_
      obtain rfl := Option.some.inj e
      exact z_sub [2, 3, 4, 5, 6, 7] rfl (z_wide (zk (k := k) (a := 1) hk (by decide)) (zk (k := n) (a := 6) hn (by decide)) kk)
    · refine z_if_neF (tgt := 1740) E dL_law_1725 rfl (Classical.not_not.mp c14) ?_
      refine z_aload_n E 5 dL_law_1728 rfl ?_
      refine z_iconst E dL_law_1729 ic_0 ?_
      obtain ⟨x15, e16, e⟩ := ob e
      refine z_lald E dL_law_1730 e16 ?_
      refine z_iload E 0 dL_law_1731 rfl ?_
      refine z_i2l (v := p8.1.toInt64) E dL_law_1733 rfl ?_
      refine z_lcmp E dL_law_1734 ?_
      rcases oi e with ⟨c17, e⟩ | ⟨c17, e⟩
      · refine z_if_eqT (tgt := 1740) E dL_law_1735 rfl c17 ?_
        refine z_goto (tgt := 2815) E dL_law_1740 rfl ?_
        obtain rfl := Option.some.inj e
        exact z_sub [2, 3, 4, 5, 6, 7] rfl (z_wide (zk (k := k) (a := 1) hk (by decide)) (zk (k := n) (a := 6) hn (by decide)) kk)
      · refine z_if_eqF (tgt := 1740) E dL_law_1735 rfl c17 ?_
        cases e
  · refine z_icmp_eqF (tgt := 1723) E dL_law_1718 rfl c13 ?_
    cases e
noncomputable def f_L_case28 (h : PH) (v0 : Nat) (v1 : Nat) (v2 : Nat) (v3 : Nat) (v4 : Nat) (v5 : Int32) : Option PH :=
  (f_L_bestNet h v1 v3).bind fun p1 =>
  (gd p1.2 v2 12).bind fun _ =>
  (f_X10_bestNet p1.2 v2).bind fun p4 =>
  (gd p4.2 v2 12).bind fun _ =>
  (f_X10_thrown p4.2 v2).bind fun p7 =>
  if p7 = p1.1 then
    if ¬ p1.1 = 0 then
      some p4.2
    else
      (alL p4.2 v3 (0 : Int32)).bind fun x11 =>
      if (lg_cmp x11 p4.1.toInt64) = 0 then
        some p4.2
      else
        none
  else
    none
theorem b_L_case28 {X : PX} (E : z_E X cL_law RL "law" 9 room_1 (some .boolean)) {k n KB NB : Nat} (hk : k + 1 ≤ KB) (hn : n + 6 ≤ NB) (hKB : KB ≤ room_1.cells) (hNB : NB ≤ room_1.slots) {h : PH} {v0 v1 v2 v3 v4 : Nat} {v5 : Int32} {s : PH} (e : f_L_case28 h v0 v1 v2 v3 v4 v5 = some s) (kk : WP X 9 KB NB 2815 [(0, .ref v0), (1, .ref v1), (2, .ref v2), (3, .ref v3), (4, .ref v4), (5, .int v5)] [] s) : WP X 9 k n 1743 [(0, .ref v0), (1, .ref v1), (2, .ref v2), (3, .ref v3), (4, .ref v4), (5, .int v5)] [] h := by
  unfold f_L_case28 at e
  refine z_aload_n E 1 dL_law_1743 rfl ?_
  refine z_aload_n E 3 dL_law_1744 rfl ?_
  obtain ⟨p1, e2, e⟩ := ob e
  refine z_kR2 (st := []) (av := [.ref v1, .ref v3]) E (k + 1) (n + 6) (z_rSX (st := []) (av := [.ref v1, .ref v3]) E Y_L_bestNet k_L_253 (c_L_bestNet (z_El E) e2) dL_law_1745 rfl rfl (by decide) (by decide) (Nat.le_trans (zk (k := k) (a := 1) hk (by decide)) hKB) (Nat.le_trans (zk (k := n) (a := 6) hn (by decide)) hNB) (Nat.zero_le _)) rfl rfl rfl ?_
  refine z_istore (lv2 := [(6, .int p1.1), (0, .ref v0), (1, .ref v1), (2, .ref v2), (3, .ref v3), (4, .ref v4), (5, .int v5)]) E dL_law_1748 (by decide) rfl ?_
  refine z_aload_n E 3 dL_law_1750 rfl ?_
  obtain ⟨_, e3, e⟩ := ob e
  obtain ⟨p4, e5, e⟩ := ob e
  refine z_kR2 (st := []) (av := [.ref v2]) E (k + 1) (n + 6) (z_rV (st := []) (av := []) E Y_X10_bestNet k_L_256 (ci := 12) rfl (c_X10_bestNet (z_El E) e5) dL_law_1751 e3 rfl rfl (by decide) (by decide) (Nat.le_trans (zk (k := k) (a := 1) hk (by decide)) hKB) (Nat.le_trans (zk (k := n) (a := 6) hn (by decide)) hNB) (Nat.zero_le _)) rfl rfl rfl ?_
  refine z_istore (lv2 := [(7, .int p4.1), (6, .int p1.1), (0, .ref v0), (1, .ref v1), (2, .ref v2), (3, .ref v3), (4, .ref v4), (5, .int v5)]) E dL_law_1754 (by decide) rfl ?_
  refine z_aload_n E 4 dL_law_1756 rfl ?_
  obtain ⟨_, e6, e⟩ := ob e
  obtain ⟨p7, e8, e⟩ := ob e
  refine z_kR2 (st := []) (av := [.ref v2]) E (k + 1) (n + 6) (z_rV (st := []) (av := []) E Y_X10_thrown k_L_161 (ci := 12) rfl (c_X10_thrown (z_El E) e8) dL_law_1757 e6 rfl rfl (by decide) (by decide) (Nat.le_trans (zk (k := k) (a := 1) hk (by decide)) hKB) (Nat.le_trans (zk (k := n) (a := 6) hn (by decide)) hNB) (Nat.zero_le _)) rfl rfl rfl ?_
  refine z_iload E 1 dL_law_1760 rfl ?_
  rcases oi e with ⟨c9, e⟩ | ⟨c9, e⟩
  · refine z_icmp_eqT (tgt := 1767) E dL_law_1762 rfl c9 ?_
    refine z_iload E 1 dL_law_1767 rfl ?_
    rcases oi e with ⟨c10, e⟩ | ⟨c10, e⟩
    · refine z_if_neT (tgt := 1784) E dL_law_1769 rfl c10 ?_
      refine z_goto (tgt := 2815) E dL_law_1784 rfl ?_
      obtain rfl := Option.some.inj e
      exact z_sub [2, 3, 4, 5, 6, 7] rfl (z_wide (zk (k := k) (a := 1) hk (by decide)) (zk (k := n) (a := 6) hn (by decide)) kk)
    · refine z_if_neF (tgt := 1784) E dL_law_1769 rfl (Classical.not_not.mp c10) ?_
      refine z_aload_n E 5 dL_law_1772 rfl ?_
      refine z_iconst E dL_law_1773 ic_0 ?_
      obtain ⟨x11, e12, e⟩ := ob e
      refine z_lald E dL_law_1774 e12 ?_
      refine z_iload E 0 dL_law_1775 rfl ?_
      refine z_i2l (v := p4.1.toInt64) E dL_law_1777 rfl ?_
      refine z_lcmp E dL_law_1778 ?_
      rcases oi e with ⟨c13, e⟩ | ⟨c13, e⟩
      · refine z_if_eqT (tgt := 1784) E dL_law_1779 rfl c13 ?_
        refine z_goto (tgt := 2815) E dL_law_1784 rfl ?_
        obtain rfl := Option.some.inj e
        exact z_sub [2, 3, 4, 5, 6, 7] rfl (z_wide (zk (k := k) (a := 1) hk (by decide)) (zk (k := n) (a := 6) hn (by decide)) kk)
      · refine z_if_eqF (tgt := 1784) E dL_law_1779 rfl c13 ?_
        cases e
  · refine z_icmp_eqF (tgt := 1767) E dL_law_1762 rfl c9 ?_
    cases e
