/-! WHAT IS KEPT FOR UNDOING: the class -/
section HIST
variable {B D0 : Nat} {g : GS} {h h1 q : PH} {a b y N c k i j : Nat} {K : Nat → GS} {R : Nat → Option Nat}
def hiF (y N c : Nat) : List Value := [.ref (y + 1), .int (w N), .int (w c)]
def HiC (h : PH) (y N c : Nat) (R : Nat → Option Nat) : Prop := kK ≤ y ∧ y + 1 < h.1 ∧ h.2 y = .inr (7, hiF y N c) ∧ h.2 (y + 1) = .inl (tyS, 8, .inr (.inr (.inr (.inr R))))
def rgP (R : Nat → Option Nat) : Nat → Prop := fun x => ∃ j, j < 8 ∧ ∃ a, R j = some a ∧ stW a x
/-- the ring: its states, apart from each other; those in the window show K -/
def Rg (B D0 : Nat) (h : PH) (N c : Nat) (R : Nat → Option Nat) (K : Nat → GS) : Prop := N < 8 ∧ c ≤ 8 ∧ (∀ j, j < 8 → ∀ a, R j = some a → D0 ≤ a ∧ ∃ s, StC h a s) ∧ (∀ j k, j < 8 → k < 8 → j ≠ k → ∀ a b, R j = some a → R k = some b → a + 10 < b ∨ b + 10 < a) ∧ ∀ i, i < c → ∃ a, R ((N + 8 - c + i) % 8) = some a ∧ Sg B h a (K i)
theorem HiC.frm {W : Nat → Prop} (Hi : HiC h y N c R) (F : fr W h h1) (h0 : ¬ W y) (h2 : ¬ W (y + 1)) : HiC h1 y N c R := by
  obtain ⟨q1, q2, q3, q4⟩ := Hi
  have := F.1
  exact ⟨q1, by omega, (F.2 y (by omega) h0).trans q3, (F.2 (y + 1) (by omega) h2).trans q4⟩
theorem Rg.frm {W : Nat → Prop} (G : Rg B D0 h N c R K) (F : fr W h h1) (hw : ∀ x, rgP R x → ¬ W x) : Rg B D0 h1 N c R K := by
  obtain ⟨g1, g2, g3, g4, g5⟩ := G
  refine ⟨g1, g2, fun j hj a ha => ?_, g4, fun i hi => ?_⟩
  · obtain ⟨s1, s, S⟩ := g3 j hj a ha
    exact ⟨s1, s, S.frm F fun i hi => hw _ ⟨j, hj, a, ha, by omega, by omega⟩⟩
  · obtain ⟨a, ha, H⟩ := g5 i hi
    exact ⟨a, ha, H.frm F fun k hk => hw _ ⟨_, Nat.mod_lt _ (by decide), a, ha, by omega, by omega⟩⟩
theorem HiC.r0 (Hi : HiC h y N c R) : rdR h y 7 0 = some (y + 1) := rdR_of Hi.2.2.1 rfl
theorem HiC.i1 (Hi : HiC h y N c R) : rdI h y 7 1 = some (w N) := rdI_of Hi.2.2.1 rfl
theorem HiC.i2 (Hi : HiC h y N c R) : rdI h y 7 2 = some (w c) := rdI_of Hi.2.2.1 rfl
theorem hiG (Hi : HiC h y N c R) : gd h y 7 = some () := gd_of Hi.2.2.1
theorem HiC.al (Hi : HiC h y N c R) (hj : j < 8) : alQ h (y + 1) (w j) = some (R j) := by
  unfold alQ
  rw [if_pos (Nat.le_trans Hi.1 (Nat.le_add_right _ _)), Hi.2.2.2]
  show (if tyS = tyS ∧ ¬ (w j < 0 ∨ 8 ≤ (w j).toNatClampNeg) then some (R (w j).toNatClampNeg) else none) = _
  rw [if_pos ⟨rfl, w_in (by decide) hj⟩, w_nat (by omega)]
theorem HiC.as {fs : List Value} (Hi : HiC h y N c R) (hj : j < 8) (hb : kK ≤ b) (hB : h.2 b = .inr (9, fs)) : ∃ h1, asQ 9 h (y + 1) (w j) b = some h1 ∧ HiC h1 y N c (va_up R j (some b)) ∧ fr (fun x => x = y + 1) h h1 := by
  refine ⟨(h.1, z_up h.2 (y + 1) (.inl (tyS, 8, .inr (.inr (.inr (.inr (va_up R j (some b)))))))), ?_, ⟨Hi.1, Hi.2.1, (z_up_n _ _ (by omega)).trans Hi.2.2.1, z_up_s _ _ _⟩, fr.up rfl⟩
  unfold asQ
  rw [if_pos ⟨Nat.le_trans Hi.1 (Nat.le_add_right _ _), hb⟩, Hi.2.2.2, hB]
  show (if 9 = 9 ∧ tyS = tyS ∧ ¬ (w j < 0 ∨ 8 ≤ (w j).toNatClampNeg) then some (h.1, z_up h.2 (y + 1) (.inl (tyS, 8, .inr (.inr (.inr (.inr (va_up R (w j).toNatClampNeg (some b)))))))) else none) = _
  rw [if_pos ⟨rfl, rfl, w_in (by decide) hj⟩, w_nat (by omega)]
theorem HiC.w1 (Hi : HiC h y N c R) (M : Nat) : ∃ h1, wr h y 7 1 (.int (w M)) = some h1 ∧ HiC h1 y M c R ∧ fr (fun x => x = y) h h1 := ⟨(h.1, z_up h.2 y (.inr (7, hiF y M c))), wr_of (fs := hiF y N c) Hi.1 Hi.2.2.1 (show 1 < 3 by decide), ⟨Hi.1, Hi.2.1, z_up_s _ _ _, (z_up_n _ _ (by omega)).trans Hi.2.2.2⟩, fr.up rfl⟩
theorem HiC.w2 (Hi : HiC h y N c R) (d : Nat) : ∃ h1, wr h y 7 2 (.int (w d)) = some h1 ∧ HiC h1 y N d R ∧ fr (fun x => x = y) h h1 := ⟨(h.1, z_up h.2 y (.inr (7, hiF y N d))), wr_of (fs := hiF y N c) Hi.1 Hi.2.2.1 (show 2 < 3 by decide), ⟨Hi.1, Hi.2.1, z_up_s _ _ _, (z_up_n _ _ (by omega)).trans Hi.2.2.2⟩, fr.up rfl⟩
theorem forget_ok (Hi : HiC h y N c R) (G : Rg B D0 h N c R K) (hy : y + 1 < D0) : ∃ h1, f_X4_forget h y = some h1 ∧ HiC h1 y N 0 R ∧ Rg B D0 h1 N 0 R K ∧ fr (fun x => x = y) h h1 := by
  obtain ⟨h1, e1, H1, F1⟩ := Hi.w2 0
  refine ⟨h1, ?_, H1, ?_, F1⟩
  · have e1' : wr h y 7 2 (.int (0 : Int32)) = some h1 := e1
    unfold f_X4_forget
    rw [e1']; rfl
  · have G1 := G.frm F1 (fun x hx => by
      obtain ⟨j, hj, a, ha, hs⟩ := hx
      have := (G.2.2.1 j hj a ha).1
      have := hs.1
      omega)
    exact ⟨G1.1, Nat.zero_le _, G1.2.2.1, G1.2.2.2.1, fun i hi => by omega⟩
theorem rem_J32 (Hi : HiC q y N c R) (G : Rg B D0 q N c R K) (H : Sg B q a g) (hb : R N = some b) (ha : a + 10 < D0) (hy : y + 1 < D0) (hya : ∀ i, i ≤ 10 → a + i ≠ y) : ∃ q1, f_X4_remember_J32 q y a b = some q1 ∧ Sg B q1 a g ∧ HiC q1 y ((N + 1) % 8) (min (c + 1) 8) R ∧ Rg B D0 q1 ((N + 1) % 8) (min (c + 1) 8) R (Kn K c g) ∧ fr (fun x => x = y ∨ stW b x) q q1 := by
  obtain ⟨g1, g2, g3, g4, g5⟩ := id G
  obtain ⟨bD, s, S⟩ := g3 N g1 b hb
  obtain ⟨x1, e1, H1, F1⟩ := Sg.copy S H (fun i hi k hk => by omega)
  have Hi1 := Hi.frm F1 (fun x => by have := x.1; omega) (fun x => by have := x.1; omega)
  obtain ⟨x2, e2, Hi2, F2⟩ := Hi1.w1 ((N + 1) % 8)
  obtain ⟨x3, e3, Hi3, F3⟩ := Hi2.w2 (min (c + 1) 8)
  have FF : fr (fun x => x = y ∨ stW b x) q x3 := ((F1.mono fun _ z => Or.inr z).trans (F2.mono fun _ z => Or.inl z)).trans (F3.mono fun _ z => Or.inl z)
  have gb : gd q b 9 = some () := S.gd
  have e8 : zrem (w N + (1 : Int32)) (8 : Int32) = w ((N + 1) % 8) := by
    rw [w_succ]; exact w_rem (by omega) (by decide)
  have em : f_J9_min_7cf53 (w c + (1 : Int32)) (8 : Int32) = w (min (c + 1) 8) := by
    rw [w_succ]; exact min_ww (m := 8) (by omega) (by decide)
  have Hb : Sg B x3 b g := (H1.frm F2 (fun i hi => by omega)).frm F3 (fun i hi => by omega)
  have old : ∀ k, k < 8 → k ≠ N → ∀ d, R k = some d → ∀ i, i ≤ 10 → ¬ (d + i = y ∨ stW b (d + i)) := fun k hk kN d hd i hi => by
    have d0 := (g3 k hk d hd).1
    have dj := g4 k N hk g1 kN d b hd hb
    rintro (z | z)
    · omega
    · have z1 := z.1
      have z2 := z.2
      omega
  refine ⟨x3, ?_, H.frm FF (fun i hi => ?_), Hi3, ⟨Nat.mod_lt _ (by decide), by omega, fun k hk d hd => ?_, g4, fun i hi => ?_⟩, FF⟩
  · unfold f_X4_remember_J32
    simp only [gb, e1, Hi1.i1, e8, e2, Hi2.i2, em, e3, Option.bind_some]
  · rintro (z | z)
    · exact hya i hi z
    · have z1 := z.1
      omega
  · by_cases kN : k = N
    · rw [kN, hb] at hd
      have : b = d := by simpa using hd
      rw [← this]
      exact ⟨bD, Hb.st⟩
    · obtain ⟨d0, s', S'⟩ := g3 k hk d hd
      exact ⟨d0, s', S'.frm FF (old k hk kN d hd)⟩
  · unfold Kn
    by_cases c8 : c = 8
    · rw [if_pos c8]
      subst c8
      by_cases i7 : i = 7
      · rw [if_pos i7, i7]
        exact ⟨b, by rw [show ((N + 1) % 8 + 8 - min (8 + 1) 8 + 7) % 8 = N by omega]; exact hb, Hb⟩
      · rw [if_neg i7]
        obtain ⟨d, d1, d2⟩ := g5 (i + 1) (by omega)
        refine ⟨d, by rw [show ((N + 1) % 8 + 8 - min (8 + 1) 8 + i) % 8 = (N + 8 - 8 + (i + 1)) % 8 by omega]; exact d1, d2.frm FF (old _ (Nat.mod_lt _ (by decide)) (by omega) d d1)⟩
    · rw [if_neg c8]
      by_cases ic : i = c
      · rw [if_pos ic, ic]
        exact ⟨b, by rw [show ((N + 1) % 8 + 8 - min (c + 1) 8 + c) % 8 = N by omega]; exact hb, Hb⟩
      · rw [if_neg ic]
        obtain ⟨d, d1, d2⟩ := g5 i (by omega)
        refine ⟨d, by rw [show ((N + 1) % 8 + 8 - min (c + 1) 8 + i) % 8 = (N + 8 - c + i) % 8 by omega]; exact d1, d2.frm FF (old _ (Nat.mod_lt _ (by decide)) (by omega) d d1)⟩
/-- a change is remembered: in a state of the ring, or in a new one -/
theorem remember_ok (Hi : HiC h y N c R) (G : Rg B D0 h N c R K) (H : Sg B h a g) (ha : a + 10 < D0) (hy : y + 1 < D0) (hya : ∀ i, i ≤ 10 → a + i ≠ y ∧ a + i ≠ y + 1) (hD : D0 ≤ h.1) : ∃ h1 R1, f_X4_remember h y a = some h1 ∧ Sg B h1 a g ∧ HiC h1 y ((N + 1) % 8) (min (c + 1) 8) R1 ∧ Rg B D0 h1 ((N + 1) % 8) (min (c + 1) 8) R1 (Kn K c g) ∧ fr (fun x => x = y ∨ x = y + 1 ∨ rgP R x) h h1 ∧ ∀ x, rgP R1 x → rgP R x ∨ h.1 ≤ x := by
  obtain ⟨g1, g2, g3, g4, g5⟩ := id G
  have al := Hi.al g1
  cases hN : R N with
  | some b =>
    obtain ⟨q1, e1, H1, Hi1, G1, F1⟩ := rem_J32 Hi G H hN ha hy (fun i hi => (hya i hi).1)
    refine ⟨q1, R, ?_, H1, Hi1, G1, F1.mono fun x z => ?_, fun x z => Or.inl z⟩
    · rw [hN] at al
      unfold f_X4_remember
      simp only [Hi.r0, Hi.i1, al, Option.bind_some]
      exact e1
    · rcases z with z | z
      · exact Or.inl z
      · exact Or.inr (Or.inr ⟨N, g1, b, hN, z⟩)
  | none =>
    have kh : kK ≤ h.1 := by
      have := Hi.1
      have := Hi.2.1
      omega
    obtain ⟨h2, f, e2, S2, -, l2, o2⟩ := init_ok (h := h) kh
    have F2 : fr (fun _ => False) h h2 := ⟨by omega, fun x hx _ => o2 x hx⟩
    have Hi2 := Hi.frm F2 (fun z => z) (fun z => z)
    have H2 := H.frm F2 (fun _ _ z => z)
    have G2 := G.frm F2 (fun _ _ z => z)
    obtain ⟨h3, e3, Hi3, F3⟩ := Hi2.as g1 S2.kK S2.ob
    have H3 := H2.frm F3 (fun i hi => (hya i hi).2)
    have lt := H.st
    have rw1 : ∀ j, j ≠ N → va_up R N (some h.1) j = R j := fun j hj => if_neg hj
    have rwN : va_up R N (some h.1) N = some h.1 := if_pos rfl
    have G3 : Rg B D0 h3 N c (va_up R N (some h.1)) K := by
      obtain ⟨p1, p2, p3, p4, p5⟩ := G2
      have wy : ∀ d, D0 ≤ d → ∀ i, i ≤ 10 → ¬ d + i = y + 1 := fun d hd i hi => by omega
      refine ⟨p1, p2, fun j hj d hd => ?_, fun j k hj hk jk d d' hd hd' => ?_, fun i hi => ?_⟩
      · by_cases jN : j = N
        · rw [jN, rwN] at hd
          have e : h.1 = d := by simpa using hd
          subst e
          exact ⟨hD, _, S2.frm F3 (wy _ hD)⟩
        · rw [rw1 j jN] at hd
          obtain ⟨d0, s, S⟩ := p3 j hj d hd
          exact ⟨d0, s, S.frm F3 (wy _ d0)⟩
      · by_cases jN : j = N
        · have kN : k ≠ N := fun z => jk (by rw [jN, z])
          rw [jN, rwN] at hd
          rw [rw1 k kN] at hd'
          have e : h.1 = d := by simpa using hd
          obtain ⟨-, s, S⟩ := g3 k hk d' hd'
          have := S.lt
          omega
        · rw [rw1 j jN] at hd
          by_cases kN : k = N
          · rw [kN, rwN] at hd'
            have e : h.1 = d' := by simpa using hd'
            obtain ⟨-, s, S⟩ := g3 j hj d hd
            have := S.lt
            omega
          · rw [rw1 k kN] at hd'
            exact p4 j k hj hk jk d d' hd hd'
      · obtain ⟨d, d1, d2⟩ := p5 i hi
        have ne : (N + 8 - c + i) % 8 ≠ N := fun z => by rw [z, hN] at d1; exact absurd d1 (by simp)
        have d0 := (p3 _ (Nat.mod_lt _ (by decide)) d d1).1
        exact ⟨d, by rw [rw1 _ ne]; exact d1, d2.frm F3 (wy _ d0)⟩
    obtain ⟨q1, e4, H4, Hi4, G4, F4⟩ := rem_J32 Hi3 G3 H3 rwN ha hy (fun i hi => (hya i hi).1)
    refine ⟨q1, _, ?_, H4, Hi4, G4, ?_, fun x z => ?_⟩
    · rw [hN] at al
      unfold f_X4_remember
      simp only [Hi.r0, Hi.i1, al, Option.bind_some]
      show ((f_X7_init (nwO 9 newF h) h.1).bind _) = _
      rw [e2]
      simp only [Option.bind_some, Hi2.r0, Hi2.i1, e3, e4]
    · refine ⟨?_, fun x hx nx => ?_⟩
      · have := F2.1; have := F3.1; have := F4.1; omega
      · have n1 : ¬ x = y := fun z => nx (Or.inl z)
        have n2 : ¬ x = y + 1 := fun z => nx (Or.inr (Or.inl z))
        have l3 := F3.1
        rw [F4.2 x (by omega) (fun z => by
          rcases z with z | z
          · exact n1 z
          · have := z.1; omega), F3.2 x (by omega) n2, o2 x hx]
    · obtain ⟨j, hj, d, hd, hs⟩ := z
      by_cases jN : j = N
      · rw [jN, rwN] at hd
        have e : h.1 = d := by simpa using hd
        exact Or.inr (by have := hs.1; omega)
      · rw [rw1 j jN] at hd
        exact Or.inl ⟨j, hj, d, hd, hs⟩
end HIST
