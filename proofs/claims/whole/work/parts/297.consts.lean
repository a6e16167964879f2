/-! THE START: the constants, as the Statement gives them -/
section CONSTS
variable {args : Array Value} {s : State} {A : Nat → Prop}
theorem arr_of {ty : FieldType} (h : (Cond.arrayClass ty).before args s = true) : ∃ cA, ArrOfT s cA ty ∧ s.vm.findClass ("[" ++ ty.toString) = some cA := by
  obtain ⟨c, k, comp, h1, h2, h3⟩ := Cond.arrayClass_spec h
  exact ⟨c, fun n z => ⟨fun k h => (by cases h), k, h2, comp, h3⟩, h1⟩
theorem arrO_of {C : String} (h : (Cond.arrayOver (.object C)).before args s = true) : ∃ cA, ArrOfT s cA (.object C) ∧ va_RA s cA (.object C) := by
  obtain ⟨comp, c, k, h1, h2, h3, h4, h5⟩ := Cond.arrayOver_spec h
  exact ⟨c, fun n z => ⟨(fun k h => by cases h), k, h3, comp, h4⟩, k, comp, h3, h4, h1, h5⟩
theorem str_of (tm : Term) (bs : List Nat) (hN : bs.length < 2 ^ 31) (hex : (Cond.exactly tm "java/lang/String").before args s = true) (hco : (Cond.eq (.field tm "java/lang/String" "coder" "B") (.int 0)).before args s = true) (har : (Cond.arrayOf (.field tm "java/lang/String" "value" "[B") .byte).before args s = true) (hle : (Cond.eq (.length (.field tm "java/lang/String" "value" "[B")) (.int (w bs.length))).before args s = true) (hel : ∀ j : Nat, j < bs.length → (Cond.eq (.elem (.field tm "java/lang/String" "value" "[B") (.int (w j))) (.int (w (bs.getD j 0)))).before args s = true) (hA : ∀ a : Nat, a < s.heap.size → ¬ A a) :
    ∃ q : Nat × Nat, tm.eval args s none [] s = some (.ref q.1) ∧ va_O "java/lang/String" q.1 A s s.heap ∧ va_OF "java/lang/String" "coder" "B" (.int 0) q.1 A s s.heap ∧ va_OF "java/lang/String" "value" "[B" (.ref q.2) q.1 A s s.heap ∧ va_T .byte q.2 bs.length (fun j => .int (w (bs.getD j 0))) A s s.heap := by
  obtain ⟨a, c, cA, kA, q1, q2, q3, q4, q5, q6, -⟩ := Cond.exactly_spec (args := args) (first := s) (o := none) (s := s) (idx := []) (t := tm) (cls := "java/lang/String") hex
  obtain ⟨t, ht, hT⟩ := va_Tof (f := fun j => .int (w (bs.getD j 0))) (A := A) hN har (va_eqt hle) (fun j hj => va_eqt (hel j hj)) hA
  exact ⟨(a, t), q1, ⟨cA, q3, q5, by rw [q6]; exact q2, hA a (Array.getElem?_eq_some_iff.mp q3).1⟩, vk_OFof q1 (va_eqt hco) hA, vk_OFof q1 ht hA, hT⟩
def kF : List Cond := flatC (Jvm.Cond.and given_1 narrow_1)
def kIx : List Nat := [330, 361, 377, 392, 402, 418, 434, 465, 488, 510, 537, 549, 561, 573, 588, 601, 610, 620, 633, 641, 651, 662, 672, 711, 731, 868, 897, 923, 957, 984, 1008, 1014, 1018, 1027, 1034, 1041, 1049, 1056, 1063, 1069, 1079]
def kSr : List Nat := [753, 788, 804, 820, 984, 1014, 1118, 1176, 1186, 1208, 1238, 1239, 1240, 1241, 1242, 1243, 1244, 1245, 1246, 1247, 1248, 1249, 1339, 1344, 1352, 1611, 1633, 1648, 1656, 1668, 2091, 2106, 2107, 2112, 2113, 2114, 2115, 2116, 2117, 2118, 2119]
def kByt : List (List Nat) := [[97, 110, 32, 97, 114, 103, 117, 109, 101, 110, 116, 32, 105, 115, 32, 111, 117, 116, 32, 111, 102, 32, 114, 97, 110, 103, 101], [110, 111, 32, 115, 117, 99, 104, 32, 110, 111, 116, 101], [110, 111, 32, 115, 117, 99, 104, 32, 110, 101, 116], [100, 101, 110, 105, 101, 100], [110, 111, 32, 115, 117, 99, 104, 32, 114, 97, 110, 107], [110, 111, 32, 115, 117, 99, 104, 32, 112, 97, 103, 101], [110, 111, 32, 110, 101, 116, 32, 119, 111, 117, 108, 100, 32, 99, 97, 116, 99, 104, 32, 97, 110, 121, 116, 104, 105, 110, 103], [110, 111, 32, 110, 111, 116, 101, 32, 105, 115, 32, 102, 108, 111, 97, 116, 105, 110, 103], [116, 104, 101, 114, 101, 32, 97, 114, 101, 32, 110, 111, 32, 110, 111, 116, 101, 115], [116, 104, 101, 32, 116, 101, 120, 116, 32, 98, 117, 102, 102, 101, 114, 32, 105, 115, 32, 102, 117, 108, 108], [110, 111, 116, 101, 32, 78, 32, 78], [99, 105, 116, 101, 32, 68, 62, 68], [100, 114, 111, 112, 32, 68, 62, 68], [99, 117, 114, 114, 101, 110, 116, 32, 78, 61, 83], [110, 101, 116, 32, 78, 43, 78, 32, 78], [99, 117, 116, 32, 68], [104, 97, 117, 108, 32, 68], [113, 117, 111, 116, 97, 32, 78, 61, 78], [108, 97, 110, 100], [102, 114, 101, 101, 32, 68], [108, 105, 99, 101, 110, 99, 101], [119, 97, 105, 116, 32, 78], [116, 104, 101, 32, 116, 101, 120, 116, 32, 100, 111, 101, 115, 32, 110, 111, 116, 32, 109, 97, 116, 99, 104, 32, 116, 104, 101, 32, 103, 114, 97, 109, 109, 97, 114], [97, 32, 99, 111, 109, 109, 97, 110, 100, 32, 102, 97, 105, 108, 101, 100], [110, 111, 32, 102, 97, 117, 108, 116, 32, 112, 111, 115, 105, 116, 105, 111, 110, 32, 119, 97, 115, 32, 107, 101, 112, 116, 32, 121, 101, 116], [110, 111, 32, 115, 117, 99, 104, 32, 105, 110, 100, 101, 120, 32, 105, 110, 32, 116, 104, 101, 32, 108, 105, 110, 101], [110, 111, 116, 104, 105, 110, 103, 32, 119, 97, 115, 32, 100, 101, 110, 105, 101, 100, 32, 121, 101, 116], [116, 104, 101, 32, 108, 97, 116, 101, 115, 116, 32, 100, 101, 110, 105, 97, 108, 32, 104, 97, 115, 32, 110, 111, 32, 99, 97, 117, 115, 101], [110, 111, 32, 99, 104, 97, 110, 103, 101, 32, 99, 97, 110, 32, 98, 101, 32, 117, 110, 100, 111, 110, 101], [116, 104, 101, 114, 101, 32, 105, 115, 32, 110, 111, 32, 115, 110, 97, 112, 115, 104, 111, 116], [116, 101], [], [114, 114, 101, 110, 116], [114, 111, 112], [97, 117, 108], [117, 111, 116, 97], [114, 101, 101], [97, 105, 116], [110, 100], [105, 99, 101, 110, 99, 101], [101, 116]]
def kB (i : Nat) : List Nat := kByt.getD i []
def kQ (i : Nat) : String × Nat × String × Nat := kStr.getD i ("", 0, "", 0)
def kSt (i : Nat) : Term := .string (kQ i).1 (kQ i).2.1
theorem nar_1 : ∀ i, i < 41 → kF[kIx.getD i 0]? = some (.exactly (kSt i) "java/lang/String") ∧ kF[kIx.getD i 0 + 1]? = some (.eq (.field (kSt i) "java/lang/String" "coder" "B") (.int 0)) ∧ kF[kIx.getD i 0 + 2]? = some (.arrayOf (.field (kSt i) "java/lang/String" "value" "[B") .byte) ∧ kF[kIx.getD i 0 + 3]? = some (.eq (.length (.field (kSt i) "java/lang/String" "value" "[B")) (.int (w (kB i).length))) := by decide +kernel
theorem nar_2 : ∀ i, i < 41 → ∀ j, j < (kB i).length → kF[kIx.getD i 0 + 4 + j]? = some (.eq (.elem (.field (kSt i) "java/lang/String" "value" "[B") (.int (w j))) (.int (w ((kB i).getD j 0)))) := by decide +kernel
theorem nar_3 : ∀ i, i < 41 → lw_tbl[kSr.getD i 0]? = some (.stringRef (kQ i).1 (kQ i).2.1 (kQ i).2.2.1) ∧ (kQ i).2.2.2 = 2 + 2 * i ∧ (kB i).length < 100 := by decide +kernel
theorem nar_4 : ∀ i, i < 41 → ∀ j, j < (kB i).length → (kB i).getD j 0 < 128 := by decide +kernel
theorem nar_5 : ∀ j, j < 4 → kF[8 + j]? = some (.eq (.elem (.static "FootnoteFishery" "LICENCE_PRICES" "[I") (.int (w j))) (.int (w (prc j)))) := by decide +kernel
theorem nar_6 : ∀ j, j < 100 → kF[21 + j]? = some (.eq (.elem (.static "java/lang/Integer" "DigitOnes" "[B") (.int (w j))) (.int (w (48 + j % 10)))) ∧ kF[124 + j]? = some (.eq (.elem (.static "java/lang/Integer" "DigitTens" "[B") (.int (w j))) (.int (w (48 + j / 10)))) := by decide +kernel
theorem nest_in : ∀ q ∈ kNest, Cond.methodLinkNest q.1 q.2.1 q.2.2.1 q.2.2.2 ∈ lw_tbl := by decide +kernel
theorem nestF_in : ∀ q ∈ kNestF, Cond.fieldLinkNest q.1 q.2.1 q.2.2.1 q.2.2.2.1 q.2.2.2.2.1 q.2.2.2.2.2 ∈ lw_tbl := by decide +kernel
theorem bad_in : ∀ w ∈ kBad, w ∈ lw_tbl := by decide +kernel
theorem nc_in : ∀ q ∈ kNc, Cond.not (.castable q.1 q.2) ∈ kF := by decide +kernel
/-- the pure constants -/
def qC (L : Nat) (xs : Nat → Int32) : Nat → PC := fun a => if a = 0 then .inl (.int, L, .inl xs) else if a = 1 then .inl (.int, 4, .inl fun j => w (prc j)) else if a = 84 then .inl (.byte, 100, .inl fun j => w (48 + j % 10)) else if a = 85 then .inl (.byte, 100, .inl fun j => w (48 + j / 10)) else if a % 2 = 0 then .inr (0, [.ref (a + 1), .int 0, .null, .null]) else .inl (.byte, (kB ((a - 3) / 2)).length, .inl fun j => w ((kB ((a - 3) / 2)).getD j 0))
def rC (b pr d1 d2 : Nat) (ad : Nat → Nat × Nat) : Nat → Nat := fun a => if a = 0 then b else if a = 1 then pr else if a = 84 then d1 else if a = 85 then d2 else if a % 2 = 0 then (ad ((a - 2) / 2)).1 else (ad ((a - 3) / 2)).2
variable {L i b pr d1 d2 : Nat} {xs : Nat → Int32} {ad : Nat → Nat × Nat}
theorem qC_e (hi : i < 41) : qC L xs (2 + 2 * i) = .inr (0, [.ref (2 + 2 * i + 1), .int 0, .null, .null]) := by
  unfold qC
  rw [if_neg (by omega), if_neg (by omega), if_neg (by omega), if_neg (by omega), if_pos (by omega)]
theorem qC_o (hi : i < 41) : qC L xs (2 + 2 * i + 1) = .inl (.byte, (kB i).length, .inl fun j => w ((kB i).getD j 0)) := by
  unfold qC
  rw [if_neg (by omega), if_neg (by omega), if_neg (by omega), if_neg (by omega), if_neg (by omega), show (2 + 2 * i + 1 - 3) / 2 = i by omega]
theorem rC_e (hi : i < 41) : rC b pr d1 d2 ad (2 + 2 * i) = (ad i).1 := by
  unfold rC
  rw [if_neg (by omega), if_neg (by omega), if_neg (by omega), if_neg (by omega), if_pos (by omega), show (2 + 2 * i - 2) / 2 = i by omega]
theorem rC_o (hi : i < 41) : rC b pr d1 d2 ad (2 + 2 * i + 1) = (ad i).2 := by
  unfold rC
  rw [if_neg (by omega), if_neg (by omega), if_neg (by omega), if_neg (by omega), if_neg (by omega), show (2 + 2 * i + 1 - 3) / 2 = i by omega]
theorem qC_str (hi : i < 41) : StrC (0, qC L xs) (2 + 2 * i) (kB i) := ⟨_, _, qC_e (L := L) (xs := xs) hi, rfl, rfl, qC_o (L := L) (xs := xs) hi, (nar_3 i hi).2.2, fun j hj => ⟨nar_4 i hi j hj, rfl⟩⟩
theorem qC_T0 : ∀ i, i < 12 → tp i = kB (10 + i) := by decide +kernel
theorem qC_T : Tps (0, qC L xs) := fun i hi => by
  have h := qC_str (L := L) (xs := xs) (i := 10 + i) (by omega)
  rw [show 2 + 2 * (10 + i) = 22 + 2 * i by omega, ← qC_T0 i hi] at h
  exact h
theorem qC_W : MWd (0, qC L xs) := ⟨qC_str (i := 30) (by decide), qC_str (i := 31) (by decide), qC_str (i := 32) (by decide), qC_str (i := 33) (by decide), qC_str (i := 34) (by decide), qC_str (i := 35) (by decide), qC_str (i := 36) (by decide), qC_str (i := 37) (by decide), qC_str (i := 38) (by decide), qC_str (i := 39) (by decide), qC_str (i := 40) (by decide)⟩
theorem qC_P : Pri (0, qC L xs) := ⟨fun j => w (prc j), rfl, fun _ _ => rfl⟩
theorem qC_D : DgC (0, qC L xs) := ⟨fun j => w (48 + j % 10), fun j => w (48 + j / 10), rfl, rfl, fun _ _ => ⟨rfl, rfl⟩⟩
theorem qC_ok : ∀ a, a < 86 → z_okC 86 (qC L xs a) := fun a ha => by
  by_cases c0 : a = 0
  · rw [c0]; exact trivial
  by_cases c1 : a = 1
  · rw [c1]; exact trivial
  by_cases c2 : a = 84
  · rw [c2]; exact trivial
  by_cases c3 : a = 85
  · rw [c3]; exact trivial
  by_cases c4 : a % 2 = 0
  · obtain ⟨i, rfl⟩ : ∃ i, a = 2 + 2 * i := ⟨(a - 2) / 2, by omega⟩
    rw [qC_e (by omega)]
    intro v hv
    simp only [List.mem_cons, List.not_mem_nil, or_false] at hv
    rcases hv with rfl | rfl | rfl | rfl
    · show 2 + 2 * i + 1 < 86; omega
    · trivial
    · trivial
    · trivial
  · obtain ⟨i, rfl⟩ : ∃ i, a = 2 + 2 * i + 1 := ⟨(a - 3) / 2, by omega⟩
    rw [qC_o (by omega)]; exact trivial
theorem start_facts (hts : ∀ w ∈ lw_tbl, w.before args s = true) (hF : ∀ w ∈ kF, w.before args s = true) (hX : va_X b L xs s s.heap) (hL : L ≤ 2048) (hbl : b < s.heap.size) (hA : ∀ a : Nat, a < s.heap.size → ¬ A a) : ∃ r0 : Nat → Nat, r0 0 = b ∧ (∀ a, a < kK → z_kC r0 A s s.heap a (qC L xs a)) ∧ z_G r0 A s s.heap := by
  have h0 : ∀ i : Nat, ∃ q : Nat × Nat, i < 41 → (kSt i).eval args s none [] s = some (.ref q.1) ∧ va_O "java/lang/String" q.1 A s s.heap ∧ va_OF "java/lang/String" "coder" "B" (.int 0) q.1 A s s.heap ∧ va_OF "java/lang/String" "value" "[B" (.ref q.2) q.1 A s s.heap ∧ va_T .byte q.2 (kB i).length (fun j => .int (w ((kB i).getD j 0))) A s s.heap := by
    intro i
    by_cases hi : i < 41
    · obtain ⟨n1, n2, n3, n4⟩ := nar_1 i hi
      have n5 := (nar_3 i hi).2.2
      obtain ⟨q, hq⟩ := str_of (A := A) (kSt i) (kB i) (by omega) (hF _ (List.mem_of_getElem? n1)) (hF _ (List.mem_of_getElem? n2)) (hF _ (List.mem_of_getElem? n3)) (hF _ (List.mem_of_getElem? n4)) (fun j hj => hF _ (List.mem_of_getElem? (nar_2 i hi j hj))) hA
      exact ⟨q, fun _ => hq⟩
    · exact ⟨(0, 0), fun h => absurd h hi⟩
  obtain ⟨ad, had⟩ := Classical.axiomOfChoice h0
  obtain ⟨pr, hpr, Tpr⟩ := va_Tof (tm := .static "FootnoteFishery" "LICENCE_PRICES" "[I") (ty := .int) (N := 4) (f := fun j => .int (w (prc j))) (A := A) (by decide) (hF _ (List.mem_of_getElem? (i := 6) (by decide +kernel))) (va_eqt (hF _ (List.mem_of_getElem? (i := 7) (by decide +kernel)))) (fun j hj => va_eqt (hF _ (List.mem_of_getElem? (nar_5 j hj)))) hA
  obtain ⟨d1, hd1, Td1⟩ := va_Tof (tm := .static "java/lang/Integer" "DigitOnes" "[B") (ty := .byte) (N := 100) (f := fun j => .int (w (48 + j % 10))) (A := A) (by decide) (hF _ (List.mem_of_getElem? (i := 19) (by decide +kernel))) (va_eqt (hF _ (List.mem_of_getElem? (i := 20) (by decide +kernel)))) (fun j hj => va_eqt (hF _ (List.mem_of_getElem? (nar_6 j hj).1))) hA
  obtain ⟨d2, hd2, Td2⟩ := va_Tof (tm := .static "java/lang/Integer" "DigitTens" "[B") (ty := .byte) (N := 100) (f := fun j => .int (w (48 + j / 10))) (A := A) (by decide) (hF _ (List.mem_of_getElem? (i := 122) (by decide +kernel))) (va_eqt (hF _ (List.mem_of_getElem? (i := 123) (by decide +kernel)))) (fun j hj => va_eqt (hF _ (List.mem_of_getElem? (nar_6 j hj).2))) hA
  refine ⟨rC b pr d1 d2 ad, rfl, fun a ha => ?_, ?_⟩
  · have ha : a < 86 := ha
    by_cases c0 : a = 0
    · subst c0
      obtain ⟨scr, x1, x2, x3, x4, x5⟩ := hX
      exact ⟨scr, x1, x2, x3, Nat.le_of_eq x4.symm, by first | (rw [x4]; done) | (rw [x4]; rfl), x5, hA _ hbl⟩
    by_cases c1 : a = 1
    · subst c1; exact Tpr
    by_cases c2 : a = 84
    · subst c2; exact Td1
    by_cases c3 : a = 85
    · subst c3; exact Td2
    by_cases c4 : a % 2 = 0
    · obtain ⟨i, rfl⟩ : ∃ i, a = 2 + 2 * i := ⟨(a - 2) / 2, by omega⟩
      have hi : i < 41 := by omega
      obtain ⟨q1, q2, q3, q4, q5⟩ := had i hi
      rw [qC_e hi]
      intro r hr
      obtain rfl : ((RJ0, TJ0, 4) : vw_C) = r := Option.some.inj hr
      rw [rC_e hi]
      refine ⟨q2, fun k v hk hv hn => ?_⟩
      match k, hk, hv with
      | 0, _, hv =>
        obtain rfl : Value.ref (2 + 2 * i + 1) = v := Option.some.inj hv
        show va_OF _ _ _ (.ref (rC b pr d1 d2 ad (2 + 2 * i + 1))) _ _ _ _
        rw [rC_o hi]
        exact q4
      | 1, _, hv =>
        obtain rfl : Value.int 0 = v := Option.some.inj hv
        exact q3
      | 2, _, hv => exact absurd (Option.some.inj hv).symm hn
      | 3, _, hv => exact absurd (Option.some.inj hv).symm hn
      | k + 4, hk, _ => exact absurd (show k + 4 < 4 from hk) (by omega)
    · obtain ⟨i, rfl⟩ : ∃ i, a = 2 + 2 * i + 1 := ⟨(a - 3) / 2, by omega⟩
      have hi : i < 41 := by omega
      obtain ⟨q1, q2, q3, q4, q5⟩ := had i hi
      rw [qC_o hi]
      show va_T .byte (rC b pr d1 d2 ad (2 + 2 * i + 1)) _ _ _ _ _
      rw [rC_o hi]
      exact q5
  · refine ⟨fun q hq => ?_, fun q hq => ?_, vx_Zqof (hts _ (List.mem_of_getElem? (i := 734) (by decide +kernel))) (hts _ (List.mem_of_getElem? (i := 90) (by decide +kernel))) (hF _ (List.mem_of_getElem? (i := 12) (by decide +kernel))) hA, vx_Zqof (hts _ (List.mem_of_getElem? (i := 736) (by decide +kernel))) (hts _ (List.mem_of_getElem? (i := 90) (by decide +kernel))) (hF _ (List.mem_of_getElem? (i := 13) (by decide +kernel))) hA, fun q hq => va_Nw.of rfl (hts _ (nest_in q hq)), fun q hq => va_Nw.of rfl (hts _ (nestF_in q hq)), fun w hw => va_Nw.of (kBad_tab w hw) (hts _ (bad_in w hw)), fun q hq => va_Nc.of (hF _ (nc_in q hq)), va_AO.of (hts _ (List.mem_of_getElem? (i := 229) (by decide +kernel))), vx_Zqof (hts _ (List.mem_of_getElem? (i := 1279) (by decide +kernel))) (hts _ (List.mem_of_getElem? (i := 103) (by decide +kernel))) (hF _ (List.mem_of_getElem? (i := 14) (by decide +kernel))) hA⟩
    · obtain ⟨i, hi⟩ := List.mem_iff_getElem?.mp hq
      have h41 : i < 41 := (List.getElem?_eq_some_iff.mp hi).1
      have eq : kQ i = q := by
        unfold kQ
        rw [List.getD_eq_getElem?_getD, hi]
        rfl
      obtain ⟨n1, n2, -⟩ := nar_3 i h41
      rw [eq] at n1 n2
      rw [n2, rC_e h41]
      have ev := (had i h41).1
      unfold kSt at ev
      rw [eq] at ev
      exact vk_R.of (hts _ (List.mem_of_getElem? n1)) ev
    · simp only [kSta, List.mem_cons, List.not_mem_nil, or_false] at hq
      rcases hq with rfl | rfl | rfl | rfl
      · exact va_Zof (v := .ref pr) (hts _ (List.mem_of_getElem? (i := 692) (by decide +kernel))) (hts _ (List.mem_of_getElem? (i := 72) (by decide +kernel))) hpr hA
      · exact va_Zof (v := .int 1) (hts _ (List.mem_of_getElem? (i := 371) (by decide +kernel))) (hts _ (List.mem_of_getElem? (i := 83) (by decide +kernel))) (va_eqi (hF _ (List.mem_of_getElem? (i := 4) (by decide +kernel)))) hA
      · exact va_Zof (v := .ref d1) (hts _ (List.mem_of_getElem? (i := 1484) (by decide +kernel))) (hts _ (List.mem_of_getElem? (i := 89) (by decide +kernel))) hd1 hA
      · exact va_Zof (v := .ref d2) (hts _ (List.mem_of_getElem? (i := 1486) (by decide +kernel))) (hts _ (List.mem_of_getElem? (i := 89) (by decide +kernel))) hd2 hA
end CONSTS
