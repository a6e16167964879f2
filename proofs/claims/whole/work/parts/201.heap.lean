/-! HEAPS: what the pure reads and writes give where a cell is known -/
section HEAP1
variable {h : PH} {a b ci k N M : Nat} {x : Int32} {v : Value} {fs : List Value} {f g : Nat → Int32} {ty : FieldType}
theorem gd_of (hc : h.2 a = .inr (ci, fs)) : gd h a ci = some () := by
  unfold gd
  rw [hc]
  exact if_pos rfl
theorem rdI_of (hc : h.2 a = .inr (ci, fs)) (hv : fs[k]? = some (.int x)) : rdI h a ci k = some x := by
  unfold rdI
  rw [hc]
  simp [hv]
theorem rdR_of (hc : h.2 a = .inr (ci, fs)) (hv : fs[k]? = some (.ref b)) : rdR h a ci k = some b := by
  unfold rdR
  rw [hc]
  simp [hv]
theorem rdO_of {o : Option Nat} (ha : kK ≤ a) (hc : h.2 a = .inr (ci, fs)) (hv : fs[k]? = some (va_rf o)) : rdO h a ci k = some o := by
  unfold rdO
  rw [if_pos ha, hc]
  cases o <;> simp [hv, va_rf]
theorem wr_of (ha : kK ≤ a) (hc : h.2 a = .inr (ci, fs)) (hl : k < fs.length) : wr h a ci k v = some (h.1, z_up h.2 a (.inr (ci, fs.set k v))) := by
  unfold wr
  rw [if_pos ha, hc]
  exact if_pos ⟨rfl, hl⟩
theorem w_in (hN : N < 2147483648) (hk : k < N) : ¬ (w k < 0 ∨ N ≤ (w k).toNatClampNeg) := by
  rw [w_nat (by omega)]
  intro q
  rcases q with q | q
  · exact w_nonneg (by omega) q
  · omega
theorem alI_of (hc : h.2 a = .inl (ty, N, .inl f)) (hN : N < 2147483648) (hk : k < N) : alI ty h a (w k) = some (f k) := by
  unfold alI
  rw [hc]
  show (if ty = ty ∧ ¬ (w k < 0 ∨ N ≤ (w k).toNatClampNeg) then some (f (w k).toNatClampNeg) else none) = _
  rw [if_pos ⟨rfl, w_in hN hk⟩, w_nat (by omega)]
theorem asI_of (ha : kK ≤ a) (hc : h.2 a = .inl (ty, N, .inl f)) (hN : N < 2147483648) (hk : k < N) : asI ty h a (w k) x = some (h.1, z_up h.2 a (.inl (ty, N, .inl (upd f k (vp_nar ty x))))) := by
  unfold asI
  rw [if_pos ha, hc]
  show (if ty = ty ∧ ¬ (w k < 0 ∨ N ≤ (w k).toNatClampNeg) then some (h.1, z_up h.2 a (.inl (ty, N, .inl (upd f (w k).toNatClampNeg (vp_nar ty x))))) else none) = _
  rw [if_pos ⟨rfl, w_in hN hk⟩, w_nat (by omega)]
theorem alA_of {y : vp_A} (hc : h.2 a = .inl (ty, y)) : alA ty h a = some (w y.1) := by
  unfold alA
  rw [hc]
  exact if_pos rfl
theorem nwI_of {lim : Nat} (hk : k ≤ lim) (hl : lim < 2147483648) : nwI ty lim h (w k) = some (h.1 + 1, z_up h.2 h.1 (.inl (ty, k, .inl fun _ => 0))) := by
  unfold nwI
  rw [w_nat (by omega), if_neg]
  intro q
  rcases q with q | q
  · exact w_nonneg (by omega) q
  · omega
theorem cpI_of (ha : kK ≤ a) (hb : kK ≤ b) (hc : h.2 a = .inl (ty, N, .inl f)) (hd : h.2 b = .inl (ty, M, .inl g)) (hN : k ≤ N) (hM : k ≤ M) (hk : k < 2147483648) (hf : ∀ i, i < k → fits ty (.int (f i)) = true) : cpI ty h a 0 b 0 (w k) = some (h.1, z_up h.2 b (.inl (ty, M, .inl (va_cpy f g 0 0 k)))) := by
  unfold cpI
  rw [if_pos ⟨ha, hb⟩, hc, hd]
  show (if ty = ty ∧ ty = ty ∧ ¬ (0 : Int32) < 0 ∧ ¬ (0 : Int32) < 0 ∧ ¬ w k < 0 ∧ (0 : Int32).toNatClampNeg + (w k).toNatClampNeg ≤ N ∧ (0 : Int32).toNatClampNeg + (w k).toNatClampNeg ≤ M ∧ ((List.range (w k).toNatClampNeg).all fun i => fits ty (.int (f ((0 : Int32).toNatClampNeg + i)))) = true then some (h.1, z_up h.2 b (.inl (ty, M, .inl (va_cpy f g (0 : Int32).toNatClampNeg (0 : Int32).toNatClampNeg (w k).toNatClampNeg)))) else none) = _
  have z : (0 : Int32).toNatClampNeg = 0 := rfl
  rw [z, w_nat hk, if_pos]
  refine ⟨rfl, rfl, by decide, by decide, w_nonneg hk, by omega, by omega, ?_⟩
  rw [List.all_eq_true]
  intro i hi
  have := List.mem_range.mp hi
  rw [Nat.zero_add]
  exact hf i this
theorem zn_b (b : Bool) : zn .boolean (zb b) = some (zb b) := by cases b <;> rfl
theorem nar_int (x : Int32) : vp_nar .int x = x := rfl
/-- what is left as it was -/
def fr (W : Nat → Prop) (h h' : PH) : Prop := h.1 ≤ h'.1 ∧ ∀ c, c < h.1 → ¬ W c → h'.2 c = h.2 c
theorem fr.refl (W : Nat → Prop) (h : PH) : fr W h h := ⟨Nat.le_refl _, fun _ _ _ => rfl⟩
theorem fr.trans {W : Nat → Prop} {h1 h2 h3 : PH} (p : fr W h1 h2) (q : fr W h2 h3) : fr W h1 h3 := ⟨Nat.le_trans p.1 q.1, fun c hc hw => (q.2 c (Nat.lt_of_lt_of_le hc p.1) hw).trans (p.2 c hc hw)⟩
theorem fr.mono {W V : Nat → Prop} {h1 h2 : PH} (p : fr W h1 h2) (hv : ∀ c, W c → V c) : fr V h1 h2 := ⟨p.1, fun c hc hw => p.2 c hc (fun z => hw (hv c z))⟩
theorem fr.up {W : Nat → Prop} {h : PH} {a : Nat} {c : PC} (ha : W a) : fr W h (h.1, z_up h.2 a c) := ⟨Nat.le_refl _, fun d _ hw => z_up_n _ _ (fun e => hw (e ▸ ha))⟩
end HEAP1
