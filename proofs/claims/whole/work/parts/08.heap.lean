/-! pure heaps: reads and writes -/
def gd (h : PH) (a ci : Nat) : Option Unit := match h.2 a with
  | .inr q => if q.1 = ci then some () else none
  | _ => none
def rdI (h : PH) (a ci k : Nat) : Option Int32 := match h.2 a with
  | .inr q => if q.1 = ci then (match q.2[k]? with
    | some (.int x) => some x
    | _ => none) else none
  | _ => none
def rdR (h : PH) (a ci k : Nat) : Option Nat := match h.2 a with
  | .inr q => if q.1 = ci then (match q.2[k]? with
    | some (.ref x) => some x
    | _ => none) else none
  | _ => none
def rdO (h : PH) (a ci k : Nat) : Option (Option Nat) := if kK ≤ a then (match h.2 a with
  | .inr q => if q.1 = ci then (match q.2[k]? with
    | some (.ref x) => some (some x)
    | some .null => some none
    | _ => none) else none
  | _ => none) else none
def wr (h : PH) (a ci k : Nat) (v : Value) : Option PH := if kK ≤ a then (match h.2 a with
  | .inr q => if q.1 = ci ∧ k < q.2.length then some (h.1, z_up h.2 a (.inr (ci, q.2.set k v))) else none
  | _ => none) else none
/-- an int kept in a small type -/
def zn (ty : FieldType) (x : Int32) : Option Int32 := if narrow ty (.int x) = .int x ∧ fits ty (.int x) = true then some x else none
def alI (ty : FieldType) (h : PH) (a : Nat) (i : Int32) : Option Int32 := match h.2 a with
  | .inl (t, n, .inl f) => if t = ty ∧ ¬ (i < 0 ∨ n ≤ i.toNatClampNeg) then some (f i.toNatClampNeg) else none
  | _ => none
def asI (ty : FieldType) (h : PH) (a : Nat) (i x : Int32) : Option PH := if kK ≤ a then (match h.2 a with
  | .inl (t, n, .inl f) => if t = ty ∧ ¬ (i < 0 ∨ n ≤ i.toNatClampNeg) then some (h.1, z_up h.2 a (.inl (ty, n, .inl (upd f i.toNatClampNeg (vp_nar ty x))))) else none
  | _ => none) else none
def alL (h : PH) (a : Nat) (i : Int32) : Option Int64 := if kK ≤ a then (match h.2 a with
  | .inl (t, n, .inr (.inl f)) => if t = .long ∧ ¬ (i < 0 ∨ n ≤ i.toNatClampNeg) then some (f i.toNatClampNeg) else none
  | _ => none) else none
def asL (h : PH) (a : Nat) (i : Int32) (x : Int64) : Option PH := if kK ≤ a then (match h.2 a with
  | .inl (t, n, .inr (.inl f)) => if t = .long ∧ ¬ (i < 0 ∨ n ≤ i.toNatClampNeg) then some (h.1, z_up h.2 a (.inl (.long, n, .inr (.inl (vp_updL f i.toNatClampNeg x))))) else none
  | _ => none) else none
def alD (h : PH) (a : Nat) (i : Int32) : Option UInt64 := if kK ≤ a then (match h.2 a with
  | .inl (t, n, .inr (.inr (.inr (.inl f)))) => if t = .double ∧ ¬ (i < 0 ∨ n ≤ i.toNatClampNeg) then some (f i.toNatClampNeg) else none
  | _ => none) else none
def asD (h : PH) (a : Nat) (i : Int32) (x : UInt64) : Option PH := if kK ≤ a then (match h.2 a with
  | .inl (t, n, .inr (.inr (.inr (.inl f)))) => if t = .double ∧ ¬ (i < 0 ∨ n ≤ i.toNatClampNeg) then some (h.1, z_up h.2 a (.inl (.double, n, .inr (.inr (.inr (.inl (vf_upd f i.toNatClampNeg x))))))) else none
  | _ => none) else none
def tyS : FieldType := .object "FootnoteFishery$State"
def alQ (h : PH) (a : Nat) (i : Int32) : Option (Option Nat) := if kK ≤ a then (match h.2 a with
  | .inl (t, n, .inr (.inr (.inr (.inr f)))) => if t = tyS ∧ ¬ (i < 0 ∨ n ≤ i.toNatClampNeg) then some (f i.toNatClampNeg) else none
  | _ => none) else none
def asQ (ci : Nat) (h : PH) (a : Nat) (i : Int32) (x : Nat) : Option PH := if kK ≤ a ∧ kK ≤ x then (match h.2 a with
  | .inl (t, n, .inr (.inr (.inr (.inr f)))) => (match h.2 x with
    | .inr q => if q.1 = ci ∧ t = tyS ∧ ¬ (i < 0 ∨ n ≤ i.toNatClampNeg) then some (h.1, z_up h.2 a (.inl (tyS, n, .inr (.inr (.inr (.inr (va_up f i.toNatClampNeg (some x)))))))) else none
    | _ => none)
  | _ => none) else none
def aln (ty : FieldType) (h : PH) (a : Nat) : Option Int32 := if kK ≤ a then (match h.2 a with
  | .inl (t, x) => if t = ty then some (Int32.ofNat x.1) else none
  | _ => none) else none
def nwO (ci : Nat) (fs : List Value) (h : PH) : PH := (h.1 + 1, z_up h.2 h.1 (.inr (ci, fs)))
def nwI (ty : FieldType) (lim : Nat) (h : PH) (n : Int32) : Option PH := if n < 0 ∨ lim < n.toNatClampNeg then none else some (h.1 + 1, z_up h.2 h.1 (.inl (ty, n.toNatClampNeg, .inl fun _ => 0)))
def nwL (lim : Nat) (h : PH) (n : Int32) : Option PH := if n < 0 ∨ lim < n.toNatClampNeg then none else some (h.1 + 1, z_up h.2 h.1 (.inl (.long, n.toNatClampNeg, .inr (.inl fun _ => 0))))
def nwD (lim : Nat) (h : PH) (n : Int32) : Option PH := if n < 0 ∨ lim < n.toNatClampNeg then none else some (h.1 + 1, z_up h.2 h.1 (.inl (.double, n.toNatClampNeg, .inr (.inr (.inr (.inl fun _ => 0))))))
def nwQ (lim : Nat) (h : PH) (n : Int32) : Option PH := if n < 0 ∨ lim < n.toNatClampNeg then none else some (h.1 + 1, z_up h.2 h.1 (.inl (tyS, n.toNatClampNeg, .inr (.inr (.inr (.inr fun _ => none))))))
def cpI (ty : FieldType) (h : PH) (a : Nat) (sp : Int32) (b : Nat) (dp n : Int32) : Option PH := if kK ≤ a ∧ kK ≤ b then (match h.2 a with
  | .inl (t0, n0, .inl f) => (match h.2 b with
    | .inl (t1, n1, .inl g) => if t0 = ty ∧ t1 = ty ∧ ¬ sp < 0 ∧ ¬ dp < 0 ∧ ¬ n < 0 ∧ sp.toNatClampNeg + n.toNatClampNeg ≤ n0 ∧ dp.toNatClampNeg + n.toNatClampNeg ≤ n1 ∧ ((List.range n.toNatClampNeg).all fun i => fits ty (.int (f (sp.toNatClampNeg + i)))) = true then some (h.1, z_up h.2 b (.inl (ty, n1, .inl (va_cpy f g sp.toNatClampNeg dp.toNatClampNeg n.toNatClampNeg)))) else none
    | _ => none)
  | _ => none) else none
def n64 (x : UInt64) : Option UInt64 := if x &&& 0x7fffffffffffffff ≤ 0x7ff0000000000000 then some x else none
def n32 (x : UInt32) : Option UInt32 := if x &&& 0x7fffffff ≤ 0x7f800000 then some x else none
