def z_Fld (own : String) (ix ci kf : Nat) : Prop := ∃ (C : String) (T : u_T) (N : Nat), vwCl[ci]? = some (C, T, N) ∧ kf < N ∧ Cond.fieldLink own ix (T kf).1 (T kf).2.1 (T kf).2.2.1 ∈ z_ws ∧ ∀ w ∈ u_ws C T N, w ∈ z_ws
def z_FldP (own : String) (ix ci kf : Nat) (ty : FieldType) (fin : Bool) : Prop := ∃ (C : String) (T : u_T) (N : Nat) (ty0 : Nat → FieldType), vwCl[ci]? = some (C, T, N) ∧ kf < N ∧ Cond.fieldLink own ix (T kf).1 (T kf).2.1 (T kf).2.2.1 ∈ z_ws ∧ (∀ w ∈ u_ws C T N, w ∈ z_ws) ∧ (∀ k, k < N → parseFieldDescriptor (T k).2.2.1 = some (ty0 k)) ∧ (∀ a, a < N → ∀ b, b < N → a ≠ b → (T a).2.1 ≠ (T b).2.1) ∧ (T kf).2.2.2 = fin ∧ parseFieldDescriptor (T kf).2.2.1 = some ty ∧ (fin = true → (T kf).1 = own)
section ZIN
variable {p : Program} {l : Launch} {e : Env} {R : Room} {s : State} {m : MethodId} {args : Array Value} {below : List Frame} {meth : Method} {c : Code} {D : va_G} {cT : FieldType → ClassId} {A : Nat → Prop} {Q : State → Prop} {ρ0 ρ : Nat → Nat} {h0 h : PH} {H H1 : Heap} {locs locs1 : List Loc}
theorem z_In_set {a : Nat} {cl : PC} (hI : z_In ((p, l, e, R, s, m, args, below, meth, c), D, cT, A, Q, ρ0, h0) ρ h H locs) (ha : kK ≤ a) (hc : z_okC h.1 cl) (hP : va_P D vwCl ((z_wsOf cT ρ h).set (a - kK) (ρ a, z_trC cT ρ cl)) H1) (hD : va_D A ((z_wsOf cT ρ h).set (a - kK) (ρ a, z_trC cT ρ cl))) (hS : va_S A s.heap H1 locs1) : z_In ((p, l, e, R, s, m, args, below, meth, c), D, cT, A, Q, ρ0, h0) ρ (h.1, z_up h.2 a cl) H1 locs1 := by
  obtain ⟨i1, i2, i3, i4, i5, i6, i7, i8, i9, i10⟩ := hI
  rw [z_ws_set cl ha] at hP hD
  refine ⟨hP, hD, hS, i4, fun b hb => ?_, fun b hb => ?_, i7, i8, i9, fun b hb => ?_⟩
  · show z_okC h.1 (z_up h.2 a cl b)
    by_cases e : b = a
    · subst e; rw [z_up_s]; exact hc
    · rw [z_up_n _ _ e]; exact i5 b hb
  · show z_kC ρ A s s.heap b (z_up h.2 a cl b)
    rw [z_up_n _ _ (by omega)]
    exact i6 b hb
  · show z_up h.2 a cl b = h0.2 b
    rw [z_up_n _ _ (by omega)]
    exact i10 b hb
theorem z_In_push {q : Nat} {cl : PC} (hI : z_In ((p, l, e, R, s, m, args, below, meth, c), D, cT, A, Q, ρ0, h0) ρ h H locs) (hc : z_okC h.1 cl) (hP : va_P D vwCl (z_wsOf cT ρ h ++ [(q, z_trC cT ρ cl)]) H1) (hD : va_D A (z_wsOf cT ρ h ++ [(q, z_trC cT ρ cl)])) (hS : va_S A s.heap H1 locs1) : z_In ((p, l, e, R, s, m, args, below, meth, c), D, cT, A, Q, ρ0, h0) (z_up ρ h.1 q) (h.1 + 1, z_up h.2 h.1 cl) H1 locs1 := by
  obtain ⟨i1, i2, i3, i4, i5, i6, i7, i8, i9, i10⟩ := hI
  rw [z_ws_push i4 i5 hc] at hP hD
  have hx : ∀ a, a < h.1 → z_up ρ h.1 q a = ρ a := fun a ha => z_up_n _ _ (Nat.ne_of_lt ha)
  refine ⟨hP, hD, hS, Nat.le_succ_of_le i4, fun b hb => ?_, fun b hb => ?_, z_G_ext i4 hx i7, Nat.le_succ_of_le i8, fun b hb => ?_, fun b hb => ?_⟩
  · show z_okC (h.1 + 1) (z_up h.2 h.1 cl b)
    by_cases e : b = h.1
    · subst e; rw [z_up_s]; exact z_okC_le (Nat.le_succ _) hc
    · rw [z_up_n _ _ e]; exact z_okC_le (Nat.le_succ _) (i5 b (by have : b < h.1 + 1 := hb; omega))
  · show z_kC _ A s s.heap b (z_up h.2 h.1 cl b)
    rw [z_up_n _ _ (by omega)]
    exact z_kC_ext hx (by omega) (i5 b (by omega)) (i6 b hb)
  · rw [hx b (by omega)]; exact i9 b hb
  · show z_up h.2 h.1 cl b = h0.2 b
    rw [z_up_n _ _ (by omega)]
    exact i10 b hb
end ZIN
theorem z_lm_push {ρ : Nat → Nat} {n q : Nat} {lv : List (Nat × Value)} (h : ∀ x ∈ lv, z_okV n x.2) : z_lm (z_up ρ n q) lv = z_lm ρ lv := by
  unfold z_lm
  refine List.map_congr_left fun x hx => ?_
  rw [z_tr_ext (n := n) (fun a ha => z_up_n _ _ (Nat.ne_of_lt ha)) (h x hx)]
theorem z_st_push {ρ : Nat → Nat} {n q : Nat} {st : List Value} (h : ∀ x ∈ st, z_okV n x) : st.map (z_tr (z_up ρ n q)) = st.map (z_tr ρ) := z_trs_ext (fun a ha => z_up_n _ _ (Nat.ne_of_lt ha)) h
theorem z_okC_at {n ci kf : Nat} {fs : List Value} {v : Value} (h : z_okC n (.inr (ci, fs))) (hv : fs[kf]? = some v) : z_okV n v := h v (List.mem_of_getElem? hv)
section ROWS
variable {X : PX} {cc : ByteArray} {own nm : String} {nL : Nat} {rm : Room} {ret : Option FieldType} (E : z_E X cc own nm nL rm ret) {k n pc : Nat} {lv : List (Nat × Value)} {st : List Value} {h : PH}
theorem z_getV (E : z_E X cc own nm nL rm ret) {ix ci kf a : Nat} {fs : List Value} {v : Value} (F : z_Fld own ix ci kf) (d : decode cc pc = .ok (.getfield ix, 3)) (hc : h.2 a = .inr (ci, fs)) (hv : fs[kf]? = some v) (hn : v ≠ .null ∨ kK ≤ a) (kk : WP X nL k n (pc + 3) lv (v :: st) h) : WP X nL k n pc lv (.ref a :: st) h := by
  obtain ⟨⟨p, l, e, R, s, m, args, below, meth, c⟩, D, cT, A, Q, ρ0, h0⟩ := X
  intro ρ H locs ls hI a1 a2 hL
  obtain ⟨C, T, N, f1, f2, f3, f4⟩ := F
  obtain ⟨g1, g2, g3, g4, g5, g6, g7, g8⟩ := E
  obtain ⟨i1, i2, i3, i4, i5, i6, i7⟩ := id hI
  have ha : a < h.1 := z_ok_hd a2
  have hok : z_okV h.1 v := z_okC_at (by rw [← hc]; exact i5 a ha) hv
  have k2 := kk ρ H locs ls hI a1 (z_ok_cons hok (z_ok_tl a2)) hL
  by_cases hk : kK ≤ a
  · exact va_get (D := D) (cl := vwCl) (tys := z_tys cT) (ws := z_wsOf cT ρ h) (fs := fs.map (z_tr ρ)) (v := z_tr ρ v) g1 g2 g5 f4 g4 g6 i1 (a - kK) (by rw [z_ws_at hk ha, hc]; rfl) f1 kf f2 (g5 _ f3) (fun _ h9 => h9) (by rw [List.getElem?_map, hv]; rfl) d k2
  · have o := i6 a (by omega)
    rw [hc] at o
    exact vk_getf g1 g2 ((o _ f1).2 kf v f2 hv (hn.resolve_right hk)) i3 g4 (g5 _ f3) (fun _ h9 => h9) d k2
theorem z_getI (E : z_E X cc own nm nL rm ret) {ix ci kf a : Nat} {x : Int32} (F : z_Fld own ix ci kf) (d : decode cc pc = .ok (.getfield ix, 3)) (hr : rdI h a ci kf = some x) (kk : WP X nL k n (pc + 3) lv (.int x :: st) h) : WP X nL k n pc lv (.ref a :: st) h := by
  unfold rdI at hr
  split at hr
  · rename_i q hc
    split at hr
    · rename_i hq
      split at hr
      · rename_i y hy
        cases hr
        subst hq
        exact z_getV E F d hc hy (Or.inl (fun z => by cases z)) kk
      · cases hr
    · cases hr
  · cases hr
theorem z_getR (E : z_E X cc own nm nL rm ret) {ix ci kf a : Nat} {x : Nat} (F : z_Fld own ix ci kf) (d : decode cc pc = .ok (.getfield ix, 3)) (hr : rdR h a ci kf = some x) (kk : WP X nL k n (pc + 3) lv (.ref x :: st) h) : WP X nL k n pc lv (.ref a :: st) h := by
  unfold rdR at hr
  split at hr
  · rename_i q hc
    split at hr
    · rename_i hq
      split at hr
      · rename_i y hy
        cases hr
        subst hq
        exact z_getV E F d hc hy (Or.inl (fun z => by cases z)) kk
      · cases hr
    · cases hr
  · cases hr
theorem z_getO (E : z_E X cc own nm nL rm ret) {ix ci kf a : Nat} {x : Option Nat} (F : z_Fld own ix ci kf) (d : decode cc pc = .ok (.getfield ix, 3)) (hr : rdO h a ci kf = some x) (kk : WP X nL k n (pc + 3) lv (va_rf x :: st) h) : WP X nL k n pc lv (.ref a :: st) h := by
  unfold rdO at hr
  split at hr
  · rename_i hk
    split at hr
    · rename_i q hc
      split at hr
      · rename_i hq
        split at hr
        · rename_i y hy
          cases hr
          subst hq
          exact z_getV E F d hc hy (Or.inr hk) kk
        · rename_i hy
          cases hr
          subst hq
          exact z_getV E F d hc hy (Or.inr hk) kk
        · cases hr
      · cases hr
    · cases hr
  · cases hr
theorem z_wr_spec {h h2 : PH} {a ci kf : Nat} {v : Value} (hr : wr h a ci kf v = some h2) : kK ≤ a ∧ ∃ fs, h.2 a = .inr (ci, fs) ∧ kf < fs.length ∧ h2 = (h.1, z_up h.2 a (.inr (ci, fs.set kf v))) := by
  unfold wr at hr
  split at hr
  · rename_i hk
    split at hr
    · rename_i q hc
      split at hr
      · rename_i hq
        cases hr
        obtain ⟨rfl, h3⟩ := hq
        exact ⟨hk, q.2, hc, h3, rfl⟩
      · cases hr
    · cases hr
  · cases hr
theorem z_putV (E : z_E X cc own nm nL rm ret) {ix ci kf a : Nat} {ty : FieldType} {fin : Bool} {v : Value} {h2 : PH} (F : z_FldP own ix ci kf ty fin) (hfin : fin = false ∨ nm = "<init>") (d : decode cc pc = .ok (.putfield ix, 3)) (hr : wr h a ci kf v = some h2) (hn : ∀ ρ, narrow ty (z_tr ρ v) = z_tr ρ v ∧ fits ty (z_tr ρ v) = true) (kk : WP X nL k n (pc + 3) lv st h2) : WP X nL k n pc lv (v :: .ref a :: st) h := by
  obtain ⟨hk, fs, hc, hkf, rfl⟩ := z_wr_spec hr
  obtain ⟨⟨p, l, e, R, s, m, args, below, meth, c⟩, D, cT, A, Q, ρ0, h0⟩ := X
  intro ρ H locs ls hI a1 a2 hL
  obtain ⟨C, T, N, ty0, f1, f2, f3, f4, f5, f6, f7, f8, f9⟩ := F
  obtain ⟨g1, g2, g3, g4, g5, g6, g7, g8, g9, g10, g11, g12⟩ := E
  obtain ⟨i1, i2, i3, i4, i5, i6, i7⟩ := id hI
  have ha : a < h.1 := z_ok_hd (z_ok_tl a2)
  have hokc : z_okC h.1 (.inr (ci, fs.set kf v)) := fun w hw => by
    rcases List.mem_or_eq_of_mem_set hw with q | rfl
    · have := i5 a ha
      rw [hc] at this
      exact this w q
    · exact z_ok_hd a2
  have he : (z_wsOf cT ρ h)[a - kK]? = some (ρ a, .inr (ci, fs.map (z_tr ρ))) := by rw [z_ws_at hk ha, hc]; rfl
  have hm : (fs.map (z_tr ρ)).set kf (z_tr ρ v) = (fs.set kf v).map (z_tr ρ) := List.map_set.symm
  have go : ∀ (H1 : Heap) (locs1 : List Loc), va_P D vwCl ((z_wsOf cT ρ h).set (a - kK) (ρ a, .inr (ci, (fs.map (z_tr ρ)).set kf (z_tr ρ v)))) H1 → va_D A ((z_wsOf cT ρ h).set (a - kK) (ρ a, .inr (ci, (fs.map (z_tr ρ)).set kf (z_tr ρ v)))) → va_S A s.heap H1 locs1 → W p l e R s m args below meth c H1 locs1 k n Q (F0 m (pc + 3) ls (st.map (z_tr ρ))) := by
    intro H1 locs1 q1 q2 q3
    rw [hm] at q1 q2
    exact kk ρ H1 locs1 ls (z_In_set hI hk hokc q1 q2 q3) a1 (z_ok_tl (z_ok_tl a2)) hL
  cases fin with
  | false => exact va_put (D := D) (cl := vwCl) (tys := z_tys cT) g1 g2 g5 f4 ty0 f5 f6 g4 g6 i1 i2 i3 (a - kK) he f1 kf f2 (g5 _ f3) (fun _ h9 => h9) f7 f8 (hn ρ).1 (hn ρ).2 (by rw [List.length_map]; exact hkf) d go
  | true => exact va_putF (D := D) (cl := vwCl) (tys := z_tys cT) g1 g2 g5 f4 ty0 f5 f6 g4 g6 i1 i2 i3 (a - kK) he f1 kf f2 (g5 _ f3) (fun _ h9 => h9) f7 (g12.trans (hfin.resolve_left (by decide))) (f9 rfl) f8 (hn ρ).1 (hn ρ).2 (by rw [List.length_map]; exact hkf) d go
theorem z_putI (E : z_E X cc own nm nL rm ret) {ix ci kf a : Nat} {fin : Bool} {x : Int32} {h2 : PH} (F : z_FldP own ix ci kf .int fin) (hfin : fin = false ∨ nm = "<init>") (d : decode cc pc = .ok (.putfield ix, 3)) (hr : wr h a ci kf (.int x) = some h2) (kk : WP X nL k n (pc + 3) lv st h2) : WP X nL k n pc lv (.int x :: .ref a :: st) h := z_putV E F hfin d hr (fun _ => ⟨rfl, rfl⟩) kk
theorem z_zn {ty : FieldType} {x y : Int32} (h : zn ty x = some y) : y = x ∧ narrow ty (.int x) = .int x ∧ fits ty (.int x) = true := by
  unfold zn at h
  split at h
  · rename_i q
    cases h
    exact ⟨rfl, q⟩
  · cases h
theorem z_putN (E : z_E X cc own nm nL rm ret) {ix ci kf a : Nat} {ty : FieldType} {fin : Bool} {x y : Int32} {h2 : PH} (F : z_FldP own ix ci kf ty fin) (hfin : fin = false ∨ nm = "<init>") (d : decode cc pc = .ok (.putfield ix, 3)) (hz : zn ty x = some y) (hr : wr h a ci kf (.int y) = some h2) (kk : WP X nL k n (pc + 3) lv st h2) : WP X nL k n pc lv (.int x :: .ref a :: st) h := by
  obtain ⟨rfl, q⟩ := z_zn hz
  exact z_putV E F hfin d hr (fun _ => q) kk
theorem z_putR (E : z_E X cc own nm nL rm ret) {ix ci kf a b : Nat} {ty : FieldType} {fin : Bool} {h2 : PH} (F : z_FldP own ix ci kf ty fin) (hty : (∃ C, ty = .object C) ∨ ∃ t, ty = .array t) (hfin : fin = false ∨ nm = "<init>") (d : decode cc pc = .ok (.putfield ix, 3)) (hr : wr h a ci kf (.ref b) = some h2) (kk : WP X nL k n (pc + 3) lv st h2) : WP X nL k n pc lv (.ref b :: .ref a :: st) h :=
  z_putV E F hfin d hr (fun _ => by rcases hty with ⟨C, rfl⟩ | ⟨t, rfl⟩ <;> exact ⟨rfl, rfl⟩) kk
end ROWS
