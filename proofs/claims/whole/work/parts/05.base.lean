/-! THE PURE PICTURE. A pure heap: the next free number, and a cell for each number. Numbers below kK are constants (the script, a static row, String constants), which nobody writes. A run of a method is read as an ordinary function over pure heaps; WP says that the machine, at an instruction, follows it. -/
abbrev PC : Type := (FieldType × vp_A) ⊕ (Nat × List Value)
abbrev PH : Type := Nat × (Nat → PC)
def z_tr (ρ : Nat → Nat) (v : Value) : Value := match v with
  | .ref a => .ref (ρ a)
  | w => w
def z_trA (ρ : Nat → Nat) (x : vp_A) : vp_A := (x.1, match x.2 with
  | .inr (.inr (.inr (.inr f))) => .inr (.inr (.inr (.inr (fun j => (f j).map ρ))))
  | z => z)
def z_trC (cT : FieldType → ClassId) (ρ : Nat → Nat) (c : PC) : va_E := match c with
  | .inl q => .inl (cT q.1, z_trA ρ q.2)
  | .inr q => .inr (q.1, q.2.map (z_tr ρ))
def z_okV (n : Nat) (v : Value) : Prop := match v with
  | .ref a => a < n
  | _ => True
def z_okA (n : Nat) (x : vp_A) : Prop := match x.2 with
  | .inr (.inr (.inr (.inr f))) => ∀ j a, f j = some a → a < n
  | _ => True
def z_okC (n : Nat) (c : PC) : Prop := match c with
  | .inl q => z_okA n q.2
  | .inr q => ∀ v ∈ q.2, z_okV n v
def z_up {α : Type} (f : Nat → α) (a : Nat) (x : α) : Nat → α := fun b => if b = a then x else f b
theorem z_up_s {α : Type} (f : Nat → α) (a : Nat) (x : α) : z_up f a x a = x := if_pos rfl
theorem z_up_n {α : Type} (f : Nat → α) {a b : Nat} (x : α) (h : b ≠ a) : z_up f a x b = f b := if_neg h
theorem z_okV_le {n m : Nat} (h : n ≤ m) {v : Value} (hv : z_okV n v) : z_okV m v := by
  cases v <;> first | exact Nat.lt_of_lt_of_le hv h | trivial
theorem z_okA_le {n m : Nat} (h : n ≤ m) {x : vp_A} (hx : z_okA n x) : z_okA m x := by
  obtain ⟨k, x⟩ := x
  rcases x with f | f | f | f | f <;> first | exact fun j a e => Nat.lt_of_lt_of_le (hx j a e) h | trivial
theorem z_okC_le {n m : Nat} (h : n ≤ m) {c : PC} (hc : z_okC n c) : z_okC m c := by
  rcases c with ⟨t, x⟩ | ⟨i, fs⟩
  · exact z_okA_le (x := x) h hc
  · exact fun v hv => z_okV_le h (hc v hv)
theorem z_tr_ext {n : Nat} {ρ ρ' : Nat → Nat} (h : ∀ a, a < n → ρ' a = ρ a) {v : Value} (hv : z_okV n v) : z_tr ρ' v = z_tr ρ v := by
  cases v <;> first | exact congrArg Value.ref (h _ hv) | rfl
theorem z_trs_ext {n : Nat} {ρ ρ' : Nat → Nat} (h : ∀ a, a < n → ρ' a = ρ a) {vs : List Value} (hv : ∀ v ∈ vs, z_okV n v) : vs.map (z_tr ρ') = vs.map (z_tr ρ) := List.map_congr_left fun v hm => z_tr_ext h (hv v hm)
theorem z_trA_ext {n : Nat} {ρ ρ' : Nat → Nat} (h : ∀ a, a < n → ρ' a = ρ a) {x : vp_A} (hx : z_okA n x) : z_trA ρ' x = z_trA ρ x := by
  obtain ⟨k, x⟩ := x
  rcases x with f | f | f | f | f <;> try rfl
  have e : (fun j => (f j).map ρ') = fun j => (f j).map ρ := by
    funext j
    cases e : f j with
    | none => rfl
    | some a => exact congrArg some (h a (hx j a e))
  exact congrArg (fun g => ((k, Sum.inr (Sum.inr (Sum.inr (Sum.inr g)))) : vp_A)) e
theorem z_trC_ext {n : Nat} {cT : FieldType → ClassId} {ρ ρ' : Nat → Nat} (h : ∀ a, a < n → ρ' a = ρ a) {c : PC} (hc : z_okC n c) : z_trC cT ρ' c = z_trC cT ρ c := by
  rcases c with ⟨t, x⟩ | ⟨i, fs⟩
  · exact congrArg (fun z => Sum.inl (cT t, z)) (z_trA_ext (x := x) h hc)
  · exact congrArg (fun z => Sum.inr (i, z)) (z_trs_ext h hc)
/-- the cells that move, as the kit's worlds have them -/
def z_wsOf (cT : FieldType → ClassId) (ρ : Nat → Nat) (h : PH) : va_W := (List.range (h.1 - kK)).map fun i => (ρ (i + kK), z_trC cT ρ (h.2 (i + kK)))
theorem z_ws_at {cT : FieldType → ClassId} {ρ : Nat → Nat} {h : PH} {a : Nat} (h1 : kK ≤ a) (h2 : a < h.1) : (z_wsOf cT ρ h)[a - kK]? = some (ρ a, z_trC cT ρ (h.2 a)) := by
  have hl : a - kK < h.1 - kK := by omega
  unfold z_wsOf
  rw [List.getElem?_map, List.getElem?_range hl]
  show some (ρ (a - kK + kK), _) = _
  rw [show a - kK + kK = a by omega]
theorem z_ws_of {cT : FieldType → ClassId} {ρ : Nat → Nat} {h : PH} {k : Nat} {q : Nat × va_E} (hk : (z_wsOf cT ρ h)[k]? = some q) : kK ≤ k + kK ∧ k + kK < h.1 ∧ q = (ρ (k + kK), z_trC cT ρ (h.2 (k + kK))) := by
  unfold z_wsOf at hk
  rw [List.getElem?_map] at hk
  by_cases hl : k < h.1 - kK
  · rw [List.getElem?_range hl] at hk
    cases hk
    exact ⟨by omega, by omega, rfl⟩
  · rw [List.getElem?_eq_none (by simpa using hl)] at hk
    cases hk
theorem z_ws_set {cT : FieldType → ClassId} {ρ : Nat → Nat} {h : PH} {a : Nat} (c : PC) (h1 : kK ≤ a) : (z_wsOf cT ρ h).set (a - kK) (ρ a, z_trC cT ρ c) = z_wsOf cT ρ (h.1, z_up h.2 a c) := by
  apply List.ext_getElem?
  intro k
  by_cases hk : k < h.1 - kK
  · rw [List.getElem?_set]
    have e1 : (z_wsOf cT ρ (h.1, z_up h.2 a c))[k]? = some (ρ (k + kK), z_trC cT ρ (z_up h.2 a c (k + kK))) := by
      have := z_ws_at (cT := cT) (ρ := ρ) (h := (h.1, z_up h.2 a c)) (a := k + kK) (by omega) (by show k + kK < h.1; omega)
      rwa [show k + kK - kK = k by omega] at this
    rw [e1]
    by_cases hq : a - kK = k
    · have ha : k + kK = a := by omega
      rw [if_pos hq, ha, z_up_s]
      rw [if_pos (by unfold z_wsOf; simp; omega)]
    · rw [if_neg hq, z_up_n _ _ (by omega)]
      have := z_ws_at (cT := cT) (ρ := ρ) (h := h) (a := k + kK) (by omega) (by omega)
      rwa [show k + kK - kK = k by omega] at this
  · rw [List.getElem?_eq_none (by simp [z_wsOf]; omega), List.getElem?_eq_none (by simp [z_wsOf]; omega)]
theorem z_ws_push {cT : FieldType → ClassId} {ρ : Nat → Nat} {h : PH} {q : Nat} {c : PC} (h1 : kK ≤ h.1) (hok : ∀ a, a < h.1 → z_okC h.1 (h.2 a)) (hc : z_okC h.1 c) : z_wsOf cT ρ h ++ [(q, z_trC cT ρ c)] = z_wsOf cT (z_up ρ h.1 q) (h.1 + 1, z_up h.2 h.1 c) := by
  have hx : ∀ a, a < h.1 → z_up ρ h.1 q a = ρ a := fun a ha => z_up_n _ _ (Nat.ne_of_lt ha)
  apply List.ext_getElem?
  intro k
  by_cases hk : k < h.1 + 1 - kK
  · have e1 : (z_wsOf cT (z_up ρ h.1 q) (h.1 + 1, z_up h.2 h.1 c))[k]? = some (z_up ρ h.1 q (k + kK), z_trC cT (z_up ρ h.1 q) (z_up h.2 h.1 c (k + kK))) := by
      have := z_ws_at (cT := cT) (ρ := z_up ρ h.1 q) (h := (h.1 + 1, z_up h.2 h.1 c)) (a := k + kK) (by omega) (by show k + kK < h.1 + 1; omega)
      rwa [show k + kK - kK = k by omega] at this
    rw [e1]
    by_cases hq : k < h.1 - kK
    · rw [List.getElem?_append_left (by simp [z_wsOf]; omega)]
      have := z_ws_at (cT := cT) (ρ := ρ) (h := h) (a := k + kK) (by omega) (by omega)
      rw [show k + kK - kK = k by omega] at this
      rw [this, hx _ (by omega), z_up_n _ _ (by omega), z_trC_ext hx (hok _ (by omega))]
    · have ha : k + kK = h.1 := by omega
      rw [List.getElem?_append_right (by simp [z_wsOf]; omega), ha, z_up_s, z_up_s, z_trC_ext hx hc]
      have : k - (z_wsOf cT ρ h).length = 0 := by simp [z_wsOf]; omega
      rw [this]
      rfl
  · rw [List.getElem?_eq_none (by simp [z_wsOf]; omega), List.getElem?_eq_none (by simp [z_wsOf]; omega)]
theorem z_ws_ext {cT : FieldType → ClassId} {ρ ρ' : Nat → Nat} {h : PH} (hx : ∀ a, a < h.1 → ρ' a = ρ a) (hok : ∀ a, a < h.1 → z_okC h.1 (h.2 a)) : z_wsOf cT ρ' h = z_wsOf cT ρ h := by
  unfold z_wsOf
  refine List.map_congr_left fun i hi => ?_
  have h1 : i + kK < h.1 := by have := List.mem_range.mp hi; omega
  rw [hx _ h1, z_trC_ext hx (hok _ h1)]
/-- the addresses that a call with this heap may write: the cells that move, and what comes from sz on -/
def z_A (ρ : Nat → Nat) (h : PH) (sz : Nat) : Nat → Prop := fun q => (∃ a, kK ≤ a ∧ a < h.1 ∧ q = ρ a) ∨ sz ≤ q
def z_tys (cT : FieldType → ClassId) : List (ClassId × FieldType) := [(cT .int, .int), (cT .char, .char), (cT .byte, .byte), (cT .long, .long), (cT .double, .double), (cT (.object "FootnoteFishery$State"), .object "FootnoteFishery$State")]
/-- a constant's cell: what the start says of it -/
def z_vals (ρ : Nat → Nat) (x : vp_A) : Nat → Value := match x.2 with
  | .inl f => fun j => .int (f j)
  | .inr (.inl f) => fun j => .long (f j)
  | .inr (.inr (.inl f)) => fun j => .float (f j)
  | .inr (.inr (.inr (.inl f))) => fun j => .double (f j)
  | .inr (.inr (.inr (.inr f))) => fun j => va_rf ((f j).map ρ)
def z_kC (ρ : Nat → Nat) (A : Nat → Prop) (U : State) (H : Heap) (a : Nat) (c : PC) : Prop := match c with
  | .inl q => va_T q.1 (ρ a) q.2.1 (z_vals ρ q.2) A U H
  | .inr q => ∀ r, vwCl[q.1]? = some r → va_O r.1 (ρ a) A U H ∧ ∀ k v, k < r.2.2 → q.2[k]? = some v → v ≠ .null → va_OF (r.2.1 k).1 (r.2.1 k).2.1 (r.2.1 k).2.2.1 (z_tr ρ v) (ρ a) A U H
def z_G (ρ : Nat → Nat) (A : Nat → Prop) (U : State) (H : Heap) : Prop :=
  (∀ q ∈ kStr, vk_R q.1 q.2.1 q.2.2.1 (ρ q.2.2.2) U) ∧ (∀ q ∈ kSta, va_Z q.1 q.2.1 q.2.2.1 (z_tr ρ q.2.2.2) A U H) ∧
  vx_Zq Bundle.tN "UNASSIGNED_STACK" Bundle.steD A U H ∧ vx_Zq Bundle.tN "SUPPRESSED_SENTINEL" Bundle.listD A U H ∧
  (∀ q ∈ kNest, va_Nw (.methodLinkNest q.1 q.2.1 q.2.2.1 q.2.2.2) U) ∧ (∀ q ∈ kNestF, va_Nw (.fieldLinkNest q.1 q.2.1 q.2.2.1 q.2.2.2.1 q.2.2.2.2.1 q.2.2.2.2.2) U) ∧ (∀ w ∈ kBad, va_Nw w U) ∧ (∀ q ∈ kNc, va_Nc q.1 q.2 U) ∧ va_AO "FootnoteFishery$State" U ∧ vx_Zq "jdk/internal/util/Preconditions" "SIOOBE_FORMATTER" "Ljava/util/function/BiFunction;" A U H
theorem z_kC_move {ρ : Nat → Nat} {A B : Nat → Prop} {u U : State} {H H1 : Heap} {a : Nat} {c : PC} (hvm : u.vm.Alike U.vm) (hk : ∀ b : Nat, b < H.size → ¬ A b → H1[b]? = H[b]?) (hAB : ∀ q, B q → A q) (h : z_kC ρ A u H a c) : z_kC ρ B U H1 a c := by
  rcases c with ⟨t, x⟩ | ⟨i, fs⟩
  · exact va_T.narrow (va_T.moved hvm (va_T.kept h hk)) hAB
  · intro r hr
    obtain ⟨h1, h2⟩ := h r hr
    exact ⟨va_O.narrow (va_O.moved hvm (va_O.kept h1 hk)) hAB, fun k v q1 q2 q3 => va_OF.narrow (va_OF.moved hvm (va_OF.kept (h2 k v q1 q2 q3) hk)) hAB⟩
theorem z_kC_ext {n : Nat} {ρ ρ' : Nat → Nat} (hx : ∀ a, a < n → ρ' a = ρ a) {A : Nat → Prop} {U : State} {H : Heap} {a : Nat} (ha : a < n) {c : PC} (hc : z_okC n c) (h : z_kC ρ A U H a c) : z_kC ρ' A U H a c := by
  rcases c with ⟨t, x⟩ | ⟨i, fs⟩
  · have e : z_vals ρ' x = z_vals ρ x := by
      obtain ⟨k, x⟩ := x
      rcases x with f | f | f | f | f <;> try rfl
      funext j
      show va_rf ((f j).map ρ') = va_rf ((f j).map ρ)
      cases e : f j with
      | none => rfl
      | some b => exact congrArg (fun z => va_rf (some z)) (hx b (hc j b e))
    show va_T t (ρ' a) x.1 (z_vals ρ' x) A U H
    rw [e, hx a ha]
    exact h
  · intro r hr
    obtain ⟨h1, h2⟩ := h r hr
    refine ⟨by rw [hx a ha]; exact h1, fun k v q1 q2 q3 => ?_⟩
    rw [hx a ha, z_tr_ext hx (hc v (List.mem_of_getElem? q2))]
    exact h2 k v q1 q2 q3
theorem z_G_ext {n : Nat} {ρ ρ' : Nat → Nat} (hn : kK ≤ n) (hx : ∀ a, a < n → ρ' a = ρ a) {A : Nat → Prop} {U : State} {H : Heap} (h : z_G ρ A U H) : z_G ρ' A U H := by
  obtain ⟨h1, h2, h3⟩ := h
  refine ⟨fun q hq => ?_, fun q hq => ?_, h3⟩
  · rw [hx _ (Nat.lt_of_lt_of_le (kStr_ok q hq) hn)]
    exact h1 q hq
  · rw [z_tr_ext (n := kK) (fun a ha => hx a (Nat.lt_of_lt_of_le ha hn)) (kSta_ok q hq)]
    exact h2 q hq
theorem z_G_move {ρ : Nat → Nat} {A B : Nat → Prop} {s U : State} {H H1 : Heap} (hW : s.WarmedH U.vm) (hk : ∀ b : Nat, b < H.size → ¬ A b → H1[b]? = H[b]?) (hAB : ∀ q, B q → A q) (h : z_G ρ A s H) : z_G ρ B U H1 := by
  obtain ⟨h1, h2, h3, h4, h5, h6, h7, h8, h9, h10⟩ := h
  refine ⟨fun q hq => vk_R.warm hW (h1 q hq), fun q hq => va_Z.narrow (va_Z.moved hW.alike (va_Z.kept (h2 q hq) hk)) hAB, vx_Zq.narrow (vx_Zq.moved hW.alike (vx_Zq.kept h3 hk)) hAB, vx_Zq.narrow (vx_Zq.moved hW.alike (vx_Zq.kept h4 hk)) hAB, fun q hq => va_Nw.warmM hW (h5 q hq), fun q hq => va_Nw.warmF hW (h6 q hq), fun q hq => z_badW (kBad_bad q hq) hW (h7 q hq), fun q hq => va_Nc.moved hW.alike (h8 q hq), va_AO.moved hW.alike h9, vx_Zq.narrow (vx_Zq.moved hW.alike (vx_Zq.kept h10 hk)) hAB⟩
