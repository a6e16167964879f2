/-! THE SEARCH IN DEPTH: what holds of its numbers -/
section TARJAN
variable {B : Nat} {g : GS} {k i j v : Nat} {T T1 T2 : Nat → Nat} {mm P fd mm1 P1 fd1 mm2 P2 fd2 lo : Nat}
def Dfs (g : GS) (T : Nat → Nat) (mm P fd : Nat) : Prop := (∀ k, k < gN g → T k ≤ mm) ∧ (∀ j k, j < gN g → k < gN g → T j = T k → T j ≠ 0 → j = k) ∧ cn (fun k => decide (T k ≠ 0)) (gN g) = mm ∧ P < 2 ^ gN g ∧ (∀ k, P.testBit k = true → T k ≠ 0) ∧ (∀ k j, k < gN g → T k ≠ 0 → P.testBit k = false → Ed g k j → T j ≠ 0 ∧ P.testBit j = false) ∧ (∀ x y, P.testBit x = true → P.testBit y = true → T x < T y → Rch g x y) ∧ fd = cn (fun k => gOf g k && (decide (T k ≠ 0) && !P.testBit k)) (gN g)
theorem Dfs.le (D : Dfs g T mm P fd) (hk : k < gN g) : T k ≤ mm := D.1 k hk
theorem Dfs.inj (D : Dfs g T mm P fd) (hj : j < gN g) (hk : k < gN g) (e : T j = T k) (h0 : T j ≠ 0) : j = k := D.2.1 j k hj hk e h0
theorem Dfs.many (D : Dfs g T mm P fd) : cn (fun k => decide (T k ≠ 0)) (gN g) = mm := D.2.2.1
theorem Dfs.pl (D : Dfs g T mm P fd) : P < 2 ^ gN g := D.2.2.2.1
theorem Dfs.met (D : Dfs g T mm P fd) (h : P.testBit k = true) : T k ≠ 0 := D.2.2.2.2.1 k h
theorem Dfs.cl (D : Dfs g T mm P fd) (hk : k < gN g) (h1 : T k ≠ 0) (h2 : P.testBit k = false) (e : Ed g k j) : T j ≠ 0 ∧ P.testBit j = false := D.2.2.2.2.2.1 k j hk h1 h2 e
theorem Dfs.ord (D : Dfs g T mm P fd) (hi : P.testBit i = true) (hj : P.testBit j = true) (h : T i < T j) : Rch g i j := D.2.2.2.2.2.2.1 i j hi hj h
theorem Dfs.cnt (D : Dfs g T mm P fd) : fd = cn (fun k => gOf g k && (decide (T k ≠ 0) && !P.testBit k)) (gN g) := D.2.2.2.2.2.2.2
theorem Dfs.lt (D : Dfs g T mm P fd) (h : P.testBit k = true) : k < gN g := Nat.lt_of_not_le fun q => by
  rw [low_no D.pl q] at h
  exact absurd h (by decide)
theorem Dfs.room (D : Dfs g T mm P fd) (hk : k < gN g) (h0 : T k = 0) : mm < gN g := by
  have h1 := cn_strict (p := fun k => decide (T k ≠ 0)) (q := fun _ => true) (n := gN g) (fun _ _ _ => rfl) hk (decide_eq_false (fun y => y h0)) rfl
  have l := cn_le (fun _ => true) (gN g)
  have := D.many
  omega
theorem Dfs.mle (D : Dfs g T mm P fd) : mm ≤ gN g := by
  rw [← D.many]; exact cn_le _ _
/-- what is reached from closed notes is closed -/
theorem Dfs.reach (D : Dfs g T mm P fd) (hk : k < gN g) (h1 : T k ≠ 0) (h2 : P.testBit k = false) (O : Ok B g) (r : Rch g k j) : j < gN g ∧ T j ≠ 0 ∧ P.testBit j = false := r.ind (S := fun x => x < gN g ∧ T x ≠ 0 ∧ P.testBit x = false) (fun i e => ⟨e.lt O, D.cl hk h1 h2 e⟩) (fun i j q e => ⟨e.lt O, D.cl q.1 q.2.1 q.2.2 e⟩)
theorem Dfs.mark (D : Dfs g T mm P fd) (hv : v < gN g) (h0 : T v = 0) (hr : ∀ x, P.testBit x = true → Rch g x v) : Dfs g (fun x => if x = v then mm + 1 else T x) (mm + 1) (P ||| 2 ^ v) fd := by
  have pv : P.testBit v = false := by
    cases y : P.testBit v
    · rfl
    · exact absurd h0 (D.met y)
  have bit : ∀ x, (P ||| 2 ^ v).testBit x = true ↔ P.testBit x = true ∨ x = v := fun x => by
    rw [Nat.testBit_or, Bool.or_eq_true, Nat.testBit_two_pow]
    constructor
    · rintro (y | y)
      · exact Or.inl y
      · exact Or.inr (of_decide_eq_true y).symm
    · rintro (y | y)
      · exact Or.inl y
      · exact Or.inr (decide_eq_true y.symm)
  have bitf : ∀ x, (P ||| 2 ^ v).testBit x = false → P.testBit x = false ∧ x ≠ v := fun x y => by
    have n : ¬ (P ||| 2 ^ v).testBit x = true := by rw [y]; decide
    rw [bit] at n
    refine ⟨?_, fun e => n (Or.inr e)⟩
    cases d : P.testBit x
    · rfl
    · exact absurd (Or.inl d) n
  refine ⟨fun k hk => ?_, fun j k hj hk e n0 => ?_, ?_, Nat.or_lt_two_pow D.pl (Nat.pow_lt_pow_right (by decide) hv), fun k hk => ?_, fun k j hk n0 nb e => ?_, fun x y hx hy hlt => ?_, ?_⟩
  · show (if k = v then mm + 1 else T k) ≤ mm + 1
    split
    · exact Nat.le_refl _
    · have := D.le hk; omega
  · have e : (if j = v then mm + 1 else T j) = (if k = v then mm + 1 else T k) := e
    have n0 : (if j = v then mm + 1 else T j) ≠ 0 := n0
    have lj := D.le hj
    have lk := D.le hk
    by_cases a : j = v
    · by_cases b : k = v
      · omega
      · rw [if_pos a, if_neg b] at e; omega
    · by_cases b : k = v
      · rw [if_neg a, if_pos b] at e; omega
      · rw [if_neg a, if_neg b] at e
        rw [if_neg a] at n0
        exact D.inj hj hk e n0
  · refine Eq.trans (?_ : _ = cn (fun k => decide (T k ≠ 0)) (gN g) + 1) (congrArg (fun y => y + 1) D.many)
    exact cn_one hv (decide_eq_false (fun y => y h0)) (by show decide ((if v = v then mm + 1 else T v) ≠ 0) = true; rw [if_pos rfl]; exact decide_eq_true (by omega)) (fun x _ hx => by show decide ((if x = v then mm + 1 else T x) ≠ 0) = _; rw [if_neg hx])
  · show (if k = v then mm + 1 else T k) ≠ 0
    rcases (bit k).mp hk with y | y
    · split
      · omega
      · exact D.met y
    · rw [if_pos y]; omega
  · obtain ⟨b1, b2⟩ := bitf k nb
    have n0 : (if k = v then mm + 1 else T k) ≠ 0 := n0
    rw [if_neg b2] at n0
    obtain ⟨c1, c2⟩ := D.cl hk n0 b1 e
    have jv : j ≠ v := fun y => by rw [y] at c1; exact c1 h0
    refine ⟨?_, ?_⟩
    · show (if j = v then mm + 1 else T j) ≠ 0
      rw [if_neg jv]; exact c1
    · cases y : (P ||| 2 ^ v).testBit j
      · rfl
      · rcases (bit j).mp y with q | q
        · rw [q] at c2; exact absurd c2 (by decide)
        · exact absurd q jv
  · have hlt : (if x = v then mm + 1 else T x) < (if y = v then mm + 1 else T y) := hlt
    rcases (bit x).mp hx with a | a
    · have xv : x ≠ v := fun q => by rw [q, pv] at a; exact absurd a (by decide)
      rw [if_neg xv] at hlt
      rcases (bit y).mp hy with b | b
      · have yv : y ≠ v := fun q => by rw [q, pv] at b; exact absurd b (by decide)
        rw [if_neg yv] at hlt
        exact D.ord a b hlt
      · rw [b]; exact hr x a
    · rw [if_pos a] at hlt
      rcases (bit y).mp hy with b | b
      · have yv : y ≠ v := fun q => by rw [q, pv] at b; exact absurd b (by decide)
        rw [if_neg yv] at hlt
        have := D.le (D.lt b)
        omega
      · rw [if_pos b] at hlt; omega
  · rw [D.cnt]
    refine cn_ext fun x hx => ?_
    congr 1
    show (decide (T x ≠ 0) && !P.testBit x) = (decide ((if x = v then mm + 1 else T x) ≠ 0) && !(P ||| 2 ^ v).testBit x)
    by_cases q : x = v
    · have b1 : (P ||| 2 ^ v).testBit x = true := (bit x).mpr (Or.inr q)
      rw [b1, q, decide_eq_false (fun y => y h0)]
      simp
    · rw [if_neg q]
      congr 2
      cases a : P.testBit x
      · cases b : (P ||| 2 ^ v).testBit x
        · rfl
        · rcases (bit x).mp b with y | y
          · rw [a] at y; exact absurd y (by decide)
          · exact absurd y q
      · exact ((bit x).mpr (Or.inl a)).symm
/-- the loop over the notes that v cites, at note i: T, mm, P from before the visit -/
def Lop (g : GS) (v : Nat) (T : Nat → Nat) (mm P : Nat) (T1 : Nat → Nat) (mm1 P1 fd1 lo i : Nat) : Prop := Dfs g T1 mm1 P1 fd1 ∧ (∀ k, k < gN g → T k ≠ 0 → T1 k = T k) ∧ T1 v = mm + 1 ∧ mm + 1 ≤ mm1 ∧ P1.testBit v = true ∧ (∀ k, k < gN g → T k = 0 → T1 k ≠ 0 → mm < T1 k) ∧ (∀ k, P.testBit k = true → P1.testBit k = true) ∧ (∀ k, P1.testBit k = true → P.testBit k = true ∨ T k = 0) ∧ (∀ x, P1.testBit x = true → P.testBit x = false → x ≠ v → Rch g x v) ∧ (∀ x, P1.testBit x = true → P.testBit x = false → ∀ j, Ed g x j → (x = v → j < i) → T1 j ≠ 0 ∧ (P.testBit j = true → lo ≤ T j)) ∧ 1 ≤ lo ∧ lo ≤ mm + 1 ∧ (lo < mm + 1 → ∃ y, P.testBit y = true ∧ T y = lo ∧ Rch g v y)
/-- what a visit of v leaves -/
def Post (g : GS) (v : Nat) (T : Nat → Nat) (mm P : Nat) (T1 : Nat → Nat) (mm1 P1 lo : Nat) : Prop := (∀ k, k < gN g → T k ≠ 0 → T1 k = T k) ∧ T1 v = mm + 1 ∧ mm + 1 ≤ mm1 ∧ (∀ k, k < gN g → T k = 0 → T1 k ≠ 0 → mm < T1 k) ∧ (∀ k, P.testBit k = true → P1.testBit k = true) ∧ (∀ k, P1.testBit k = true → P.testBit k = true ∨ T k = 0) ∧ (∀ x, P1.testBit x = true → P.testBit x = false → (∃ y, P.testBit y = true ∧ Rch g x y) ∧ ∀ j, Ed g x j → T1 j ≠ 0 ∧ (P.testBit j = true → lo ≤ T j)) ∧ 1 ≤ lo ∧ lo ≤ mm + 1 ∧ (lo < mm + 1 → ∃ y, P.testBit y = true ∧ T y = lo ∧ Rch g v y)
theorem bit_case {S x : Nat} : S.testBit x = true ∨ S.testBit x = false := by cases S.testBit x <;> simp
theorem Lop.start (D : Dfs g T mm P fd) (hv : v < gN g) (h0 : T v = 0) (hr : ∀ x, P.testBit x = true → Rch g x v) : Lop g v T mm P (fun x => if x = v then mm + 1 else T x) (mm + 1) (P ||| 2 ^ v) fd (mm + 1) 0 := by
  have pv : P.testBit v = false := by
    cases y : P.testBit v
    · rfl
    · exact absurd h0 (D.met y)
  have bit : ∀ x, (P ||| 2 ^ v).testBit x = true → P.testBit x = true ∨ x = v := fun x h => by
    rw [Nat.testBit_or, Bool.or_eq_true, Nat.testBit_two_pow] at h
    rcases h with y | y
    · exact Or.inl y
    · exact Or.inr (of_decide_eq_true y).symm
  refine ⟨D.mark hv h0 hr, fun k _ n0 => ?_, if_pos rfl, Nat.le_refl _, ?_, fun k hk z0 n0 => ?_, fun k hk => ?_, fun k hk => ?_, fun x hx px xv => ?_, fun x hx px j e q => ?_, by omega, Nat.le_refl _, fun y => by omega⟩
  · exact if_neg (fun y => n0 (by rw [y]; exact h0))
  · rw [Nat.testBit_or, Nat.testBit_two_pow]; simp
  · have n0 : (if k = v then mm + 1 else T k) ≠ 0 := n0
    show mm < (if k = v then mm + 1 else T k)
    by_cases y : k = v
    · rw [if_pos y]; omega
    · rw [if_neg y] at n0; exact absurd z0 n0
  · rw [Nat.testBit_or, hk]; rfl
  · rcases bit k hk with y | y
    · exact Or.inl y
    · exact Or.inr (by rw [y]; exact h0)
  · rcases bit x hx with y | y
    · rw [px] at y; exact absurd y (by decide)
    · exact absurd y xv
  · rcases bit x hx with y | y
    · rw [px] at y; exact absurd y (by decide)
    · have := q y; omega
/-- all open notes reach v -/
theorem Lop.to (L : Lop g v T mm P T1 mm1 P1 fd1 lo i) (D : Dfs g T mm P fd) {x : Nat} (hx : P1.testBit x = true) (xv : x ≠ v) : Rch g x v := by
  obtain ⟨D1, ext, tv, m1, pv, new, up, dn, J, K, l0, l1, l2⟩ := L
  rcases bit_case (S := P) (x := x) with y | y
  · have := D.le (D.lt y)
    have e := ext x (D.lt y) (D.met y)
    exact D1.ord hx pv (by omega)
  · exact J x hx y xv
theorem Lop.skip (L : Lop g v T mm P T1 mm1 P1 fd1 lo i) (h : ¬ Ed g v i) : Lop g v T mm P T1 mm1 P1 fd1 lo (i + 1) := by
  obtain ⟨D1, ext, tv, m1, pv, new, up, dn, J, K, l0, l1, l2⟩ := L
  refine ⟨D1, ext, tv, m1, pv, new, up, dn, J, fun x hx px j e q => K x hx px j e fun y => ?_, l0, l1, l2⟩
  have := q y
  have ne : j ≠ i := fun z => h (by rw [← z, ← y]; exact e)
  omega
theorem Lop.closed (L : Lop g v T mm P T1 mm1 P1 fd1 lo i) (h0 : T1 i ≠ 0) (hb : P1.testBit i = false) : Lop g v T mm P T1 mm1 P1 fd1 lo (i + 1) := by
  obtain ⟨D1, ext, tv, m1, pv, new, up, dn, J, K, l0, l1, l2⟩ := L
  refine ⟨D1, ext, tv, m1, pv, new, up, dn, J, fun x hx px j e q => ?_, l0, l1, l2⟩
  by_cases ji : j = i
  · rw [ji]
    exact ⟨h0, fun y => by rw [up i y] at hb; exact absurd hb (by decide)⟩
  · exact K x hx px j e fun y => by have := q y; omega
theorem Lop.open_ (L : Lop g v T mm P T1 mm1 P1 fd1 lo i) (D : Dfs g T mm P fd) (hb : P1.testBit i = true) (e0 : Ed g v i) : Lop g v T mm P T1 mm1 P1 fd1 (min lo (T1 i)) (i + 1) := by
  obtain ⟨D1, ext, tv, m1, pv, new, up, dn, J, K, l0, l1, l2⟩ := L
  have n0 := D1.met hb
  refine ⟨D1, ext, tv, m1, pv, new, up, dn, J, fun x hx px j e q => ?_, by omega, by omega, fun y => ?_⟩
  · by_cases ji : j = i
    · rw [ji]
      refine ⟨n0, fun y => ?_⟩
      have := ext i (D.lt y) (D.met y)
      omega
    · obtain ⟨k1, k2⟩ := K x hx px j e fun y => by have := q y; omega
      exact ⟨k1, fun y => by have := k2 y; omega⟩
  · by_cases c : lo ≤ T1 i
    · obtain ⟨z, z1, z2, z3⟩ := l2 (by omega)
      exact ⟨z, z1, by omega, z3⟩
    · have hi := D1.lt hb
      have nz : T i ≠ 0 := fun z => by
        have := new i hi z n0
        omega
      have ei := ext i hi nz
      rcases dn i hb with y | y
      · exact ⟨i, y, by omega, Rch.base e0⟩
      · exact absurd y nz
theorem Lop.child (L : Lop g v T mm P T1 mm1 P1 fd1 lo i) (D : Dfs g T mm P fd) (O : Ok B g) (hv : v < gN g) (e0 : Ed g v i) (z0 : T1 i = 0) {l2' : Nat} (D2 : Dfs g T2 mm2 P2 fd2) (Q : Post g i T1 mm1 P1 T2 mm2 P2 l2') : Lop g v T mm P T2 mm2 P2 fd2 (min lo l2') (i + 1) := by
  have toV := fun {x : Nat} => L.to D (x := x)
  obtain ⟨D1, ext, tv, m1, pv, new, up, dn, J, K, l0, l1, l2⟩ := L
  obtain ⟨ext2, ti, m2, new2, up2, dn2, N2, q0, q1, q2⟩ := Q
  have hi := e0.lt O
  have pi : P.testBit i = false := by
    cases y : P.testBit i
    · rfl
    · have := ext i hi (D.met y)
      exact absurd (this.symm.trans z0) (D.met y)
  refine ⟨D2, fun k hk n0 => ?_, ?_, by omega, up2 v pv, fun k hk a0 n0 => ?_, fun k hk => up2 k (up k hk), fun k hk => ?_, fun x hx px xv => ?_, fun x hx px j e q => ?_, by omega, by omega, fun y => ?_⟩
  · have e1 := ext k hk n0
    rw [ext2 k hk (by rw [e1]; exact n0), e1]
  · rw [ext2 v hv (by omega), tv]
  · by_cases c : T1 k = 0
    · have := new2 k hk c n0; omega
    · rw [ext2 k hk c]; exact new k hk a0 c
  · rcases dn2 k hk with y | y
    · exact dn k y
    · refine Or.inr ?_
      by_cases c : T k = 0
      · exact c
      · have := ext k (D2.lt hk) c
        omega
  · rcases bit_case (S := P1) (x := x) with y | y
    · exact J x y px xv
    · obtain ⟨⟨u, u1, u2⟩, -⟩ := N2 x hx y
      by_cases uv : u = v
      · rw [← uv]; exact u2
      · exact u2.trans (toV u1 uv)
  · rcases bit_case (S := P1) (x := x) with y | y
    · by_cases c : x = v ∧ j = i
      · rw [c.2]
        refine ⟨by omega, fun z => ?_⟩
        rw [pi] at z; exact absurd z (by decide)
      · obtain ⟨k1, k2⟩ := K x y px j e fun z => by have := q z; omega
        have hj := e.lt O
        refine ⟨by rw [ext2 j hj k1]; exact k1, fun z => ?_⟩
        have := k2 z; omega
    · obtain ⟨-, u⟩ := N2 x hx y
      obtain ⟨k1, k2⟩ := u j e
      refine ⟨k1, fun z => ?_⟩
      have a1 := k2 (up j z)
      have a2 := ext j (D.lt z) (D.met z)
      omega
  · by_cases c : lo ≤ l2'
    · obtain ⟨z, z1, z2, z3⟩ := l2 (by omega)
      exact ⟨z, z1, by omega, z3⟩
    · obtain ⟨u, u1, u2, u3⟩ := q2 (by omega)
      have hu := D1.lt u1
      have nz : T u ≠ 0 := fun w0 => by
        have := new u hu w0 (D1.met u1)
        omega
      have eu := ext u hu nz
      rcases dn u u1 with y | y
      · exact ⟨u, y, by omega, Rch.head e0 u3⟩
      · exact absurd y nz
/-- what a child's visit needs -/
theorem Lop.pre (L : Lop g v T mm P T1 mm1 P1 fd1 lo i) (D : Dfs g T mm P fd) (e0 : Ed g v i) {x : Nat} (hx : P1.testBit x = true) : Rch g x i := by
  by_cases c : x = v
  · rw [c]; exact Rch.base e0
  · exact (L.to D hx c).step e0
theorem Lop.leave (L : Lop g v T mm P T1 mm1 P1 fd1 lo (gN g)) (O : Ok B g) (h : ¬ lo = mm + 1) : Post g v T mm P T1 mm1 P1 lo := by
  obtain ⟨D1, ext, tv, m1, pv, new, up, dn, J, K, l0, l1, l2⟩ := L
  obtain ⟨y, y1, y2, y3⟩ := l2 (by omega)
  refine ⟨ext, tv, m1, new, up, dn, fun x hx px => ⟨⟨y, y1, ?_⟩, fun j e => K x hx px j e fun _ => e.lt O⟩, l0, l1, l2⟩
  by_cases c : x = v
  · rw [c]; exact y3
  · exact (J x hx px c).trans y3
/-- the circle that a visit completes -/
theorem Lop.ring (L : Lop g v T mm P T1 mm1 P1 fd1 lo (gN g)) (D : Dfs g T mm P fd) (O : Ok B g) (hv : v < gN g) (h : lo = mm + 1) : (∀ k j, k < gN g → T1 k ≠ 0 → P.testBit k = false → Ed g k j → T1 j ≠ 0 ∧ P.testBit j = false) ∧ ∀ x, (gO g v).testBit x = true ↔ P1.testBit x = true ∧ P.testBit x = false := by
  have toV := fun {x : Nat} => L.to D (x := x)
  obtain ⟨D1, ext, tv, m1, pv, new, up, dn, J, K, l0, l1, l2⟩ := L
  have vP : P.testBit v = false := by
    cases y : P.testBit v
    · rfl
    · have a1 := D.le hv
      have a2 := ext v hv (D.met y)
      omega
  have cl : ∀ k j, k < gN g → T1 k ≠ 0 → P.testBit k = false → Ed g k j → T1 j ≠ 0 ∧ P.testBit j = false := fun k j hk n0 nb e => by
    rcases bit_case (S := P1) (x := k) with y | y
    · obtain ⟨k1, k2⟩ := K k y nb j e fun _ => e.lt O
      refine ⟨k1, ?_⟩
      cases z : P.testBit j
      · rfl
      · have a1 := k2 z
        have a2 := D.le (D.lt z)
        omega
    · obtain ⟨k1, k2⟩ := D1.cl hk n0 y e
      refine ⟨k1, ?_⟩
      cases z : P.testBit j
      · rfl
      · rw [up j z] at k2; exact absurd k2 (by decide)
  refine ⟨cl, fun x => ?_⟩
  have bo : (gO g v).testBit x = true ↔ x = v ∨ (Rch g v x ∧ Rch g x v) := by
    rw [gO_eq, Nat.testBit_or, Bool.or_eq_true, gQc_bit O hv, Nat.testBit_two_pow]
    constructor
    · rintro (y | y)
      · exact Or.inl (of_decide_eq_true y).symm
      · exact Or.inr y
    · rintro (y | y)
      · exact Or.inl (decide_eq_true y.symm)
      · exact Or.inr y
  rw [bo]
  constructor
  · rintro (y | ⟨r1, r2⟩)
    · rw [y]; exact ⟨pv, vP⟩
    · have key : x < gN g ∧ T1 x ≠ 0 ∧ P.testBit x = false := r1.ind (S := fun x => x < gN g ∧ T1 x ≠ 0 ∧ P.testBit x = false) (fun i e => ⟨e.lt O, cl v i hv (by omega) vP e⟩) (fun i j q e => ⟨e.lt O, cl i j q.1 q.2.1 q.2.2 e⟩)
      refine ⟨?_, key.2.2⟩
      cases z : P1.testBit x
      · have := (D1.reach key.1 key.2.1 z O r2).2.2
        rw [pv] at this
        exact absurd this (by decide)
      · rfl
  · rintro ⟨a1, a2⟩
    by_cases c : x = v
    · exact Or.inl c
    · have hx := D1.lt a1
      have n0 := D1.met a1
      have z0 : T x = 0 := by
        rcases dn x a1 with y | y
        · rw [a2] at y; exact absurd y (by decide)
        · exact y
      have := new x hx z0 n0
      have ne : T1 x ≠ T1 v := fun y => c (D1.inj hx hv y n0)
      exact Or.inr ⟨D1.ord pv a1 (by omega), toV a1 c⟩
theorem low_one {S : Nat} : ∀ n, cn (fun k => (S &&& (2 ^ k - 1) == 0) && S.testBit k) n = if S % 2 ^ n = 0 then 0 else 1 := by
  intro n
  induction n with
  | zero =>
    rw [if_pos (by rw [Nat.pow_zero, Nat.mod_one])]
    rfl
  | succ n ih =>
    rw [cn_s, ih]
    have e1 : S &&& (2 ^ n - 1) = S % 2 ^ n := Nat.and_two_pow_sub_one_eq_mod S n
    rw [e1]
    have ext0 : S % 2 ^ (n + 1) = 0 ↔ S % 2 ^ n = 0 ∧ S.testBit n = false := by
      constructor
      · intro z
        have all : ∀ j, j < n + 1 → S.testBit j = false := fun j hj => by
          have : (S % 2 ^ (n + 1)).testBit j = false := by rw [z, Nat.zero_testBit]
          rw [Nat.testBit_mod_two_pow] at this
          simpa [hj] using this
        refine ⟨Nat.eq_of_testBit_eq fun j => ?_, all n (by omega)⟩
        rw [Nat.testBit_mod_two_pow, Nat.zero_testBit]
        by_cases d : j < n
        · rw [all j (by omega)]; simp
        · simp [d]
      · rintro ⟨z, b⟩
        refine Nat.eq_of_testBit_eq fun j => ?_
        rw [Nat.testBit_mod_two_pow, Nat.zero_testBit]
        by_cases d : j < n
        · have : (S % 2 ^ n).testBit j = false := by rw [z, Nat.zero_testBit]
          rw [Nat.testBit_mod_two_pow] at this
          have : S.testBit j = false := by simpa [d] using this
          rw [this]; simp
        · by_cases d2 : j = n
          · rw [d2, b]; simp
          · simp; omega
    by_cases a : S % 2 ^ n = 0
    · rw [if_pos a]
      cases b : S.testBit n
      · rw [if_pos (ext0.mpr ⟨a, b⟩)]; simp
      · rw [if_neg (fun y => by have := (ext0.mp y).2; rw [b] at this; exact absurd this (by decide)), a]; simp
    · rw [if_neg a, if_neg (fun y => a (ext0.mp y).1)]
      have : (S % 2 ^ n == 0) = false := by simpa using a
      rw [this]; simp
theorem gO_same (O : Ok B g) (hv : v < gN g) (hk : (gO g v).testBit k = true) (hkn : k < gN g) : gO g k = gO g v := by
  have mem : ∀ u x, u < gN g → ((gO g u).testBit x = true ↔ x = u ∨ (Rch g u x ∧ Rch g x u)) := fun u x hu => by
    rw [gO_eq, Nat.testBit_or, Bool.or_eq_true, gQc_bit O hu, Nat.testBit_two_pow]
    constructor
    · rintro (y | y)
      · exact Or.inl (of_decide_eq_true y).symm
      · exact Or.inr y
    · rintro (y | y)
      · exact Or.inl (decide_eq_true y.symm)
      · exact Or.inr y
  have h1 := (mem v k hv).mp hk
  refine Nat.eq_of_testBit_eq fun x => ?_
  have e : (gO g k).testBit x = true ↔ (gO g v).testBit x = true := by
    rw [mem k x hkn, mem v x hv]
    rcases h1 with y | ⟨r1, r2⟩
    · rw [y]
    · constructor
      · rintro (z | ⟨z1, z2⟩)
        · rw [z]; exact Or.inr ⟨r1, r2⟩
        · exact Or.inr ⟨r1.trans z1, z2.trans r2⟩
      · rintro (z | ⟨z1, z2⟩)
        · rw [z]; exact Or.inr ⟨r2, r1⟩
        · exact Or.inr ⟨r2.trans z1, z2.trans r1⟩
  cases a : (gO g k).testBit x <;> cases b : (gO g v).testBit x
  · rfl
  · rw [a, b] at e; exact absurd (e.mpr rfl) (by decide)
  · rw [a, b] at e; exact absurd (e.mp rfl) (by decide)
  · rfl
theorem ring_one (O : Ok B g) (hv : v < gN g) : cn (fun k => gOf g k && (gO g v).testBit k) (gN g) = if 1 < pop (gO g v) then 1 else 0 := by
  have lt1 := gO_lt (g := g) hv
  have e1 : cn (fun k => gOf g k && (gO g v).testBit k) (gN g) = cn (fun k => decide (1 < pop (gO g v)) && ((gO g v &&& (2 ^ k - 1) == 0) && (gO g v).testBit k)) (gN g) := cn_ext fun k hk => by
    cases b : (gO g v).testBit k
    · simp
    · unfold gOf
      rw [gO_same O hv b hk, Bool.and_assoc]
  rw [e1]
  by_cases c : 1 < pop (gO g v)
  · rw [if_pos c]
    have e2 : cn (fun k => decide (1 < pop (gO g v)) && ((gO g v &&& (2 ^ k - 1) == 0) && (gO g v).testBit k)) (gN g) = cn (fun k => (gO g v &&& (2 ^ k - 1) == 0) && (gO g v).testBit k) (gN g) := cn_ext fun k _ => by rw [decide_eq_true c]; rfl
    rw [e2, low_one, Nat.mod_eq_of_lt lt1, if_neg]
    intro z
    have : (gO g v).testBit v = true := by rw [gO_eq, Nat.testBit_or, Nat.testBit_two_pow]; simp
    rw [z, Nat.zero_testBit] at this
    exact absurd this (by decide)
  · rw [if_neg c]
    have e2 : cn (fun k => decide (1 < pop (gO g v)) && ((gO g v &&& (2 ^ k - 1) == 0) && (gO g v).testBit k)) (gN g) = cn (fun _ => false) (gN g) := cn_ext fun k _ => by rw [decide_eq_false c]; rfl
    rw [e2]
    have z : ∀ n, cn (fun _ => false) n = 0 := fun n => by
      induction n with
      | zero => rfl
      | succ n ih => rw [cn_s, ih]; rfl
    exact z _
theorem Lop.close (L : Lop g v T mm P T1 mm1 P1 fd1 lo (gN g)) (D : Dfs g T mm P fd) (O : Ok B g) (hv : v < gN g) (h : lo = mm + 1) : Dfs g T1 mm1 P (fd1 + if 1 < pop (gO g v) then 1 else 0) ∧ Post g v T mm P T1 mm1 P lo := by
  obtain ⟨cl, ring⟩ := L.ring D O hv h
  obtain ⟨D1, ext, tv, m1, pv, new, up, dn, J, K, l0, l1, l2⟩ := L
  refine ⟨⟨D1.1, D1.2.1, D1.many, D.pl, fun k hk => D1.met (up k hk), cl, fun x y hx hy hlt => D1.ord (up x hx) (up y hy) hlt, ?_⟩, ⟨ext, tv, m1, new, fun _ y => y, fun _ y => Or.inl y, fun x hx px => by rw [hx] at px; exact absurd px (by decide), l0, l1, l2⟩⟩
  rw [D1.cnt, ← ring_one O hv]
  refine (cn_both fun k hk => ?_).symm
  have r := ring k
  have m := D1.met (k := k)
  have u := up k
  cases gOf g k
  · simp
  · cases a : P1.testBit k
    · cases b : P.testBit k
      · have : (gO g v).testBit k = false := by
          cases y : (gO g v).testBit k
          · rfl
          · have := (r.mp y).1
            rw [a] at this; exact absurd this (by decide)
        rw [this]; simp
      · rw [u b] at a; exact absurd a (by decide)
    · have n0 := m a
      cases b : P.testBit k
      · have : (gO g v).testBit k = true := r.mpr ⟨a, b⟩
        rw [this]; simp [n0]
      · have : (gO g v).testBit k = false := by
          cases y : (gO g v).testBit k
          · rfl
          · have := (r.mp y).2
            rw [b] at this; exact absurd this (by decide)
        rw [this]; simp [n0]
end TARJAN
