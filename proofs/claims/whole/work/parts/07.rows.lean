theorem z_iconst {X : PX} {cc : ByteArray} {own nm : String} {nL : Nat} {rm : Room} {ret : Option FieldType} (E : z_E X cc own nm nL rm ret) {k n pc : Nat} {lv : List (Nat × Value)} {st : List Value} {h : PH} {i : Int} {v : Int32} (d : decode cc pc = .ok (.iconst i, 1)) (hv : Int32.ofInt i = v) (kk : WP X nL k n (pc + 1) lv (.int v :: st) h) : WP X nL k n pc lv (st) h := by
  obtain ⟨⟨p, l, e, R, s, m, args, below, meth, c⟩, D, cT, A, Q, ρ0, h0⟩ := X
  intro ρ H locs ls hI a1 a2 hL
  exact lv_iconst E.1 E.2.1 d hv (kk ρ H locs ls hI a1 (z_ok_cons trivial (a2)) hL)
theorem z_bipush {X : PX} {cc : ByteArray} {own nm : String} {nL : Nat} {rm : Room} {ret : Option FieldType} (E : z_E X cc own nm nL rm ret) {k n pc : Nat} {lv : List (Nat × Value)} {st : List Value} {h : PH} {i : Int} {v : Int32} (d : decode cc pc = .ok (.bipush i, 2)) (hv : (Int8.ofInt i).toInt32 = v) (kk : WP X nL k n (pc + 2) lv (.int v :: st) h) : WP X nL k n pc lv (st) h := by
  obtain ⟨⟨p, l, e, R, s, m, args, below, meth, c⟩, D, cT, A, Q, ρ0, h0⟩ := X
  intro ρ H locs ls hI a1 a2 hL
  exact lv_bipush E.1 E.2.1 d hv (kk ρ H locs ls hI a1 (z_ok_cons trivial (a2)) hL)
theorem z_sipush {X : PX} {cc : ByteArray} {own nm : String} {nL : Nat} {rm : Room} {ret : Option FieldType} (E : z_E X cc own nm nL rm ret) {k n pc : Nat} {lv : List (Nat × Value)} {st : List Value} {h : PH} {i : Int} {v : Int32} (d : decode cc pc = .ok (.sipush i, 3)) (hv : (Int16.ofInt i).toInt32 = v) (kk : WP X nL k n (pc + 3) lv (.int v :: st) h) : WP X nL k n pc lv (st) h := by
  obtain ⟨⟨p, l, e, R, s, m, args, below, meth, c⟩, D, cT, A, Q, ρ0, h0⟩ := X
  intro ρ H locs ls hI a1 a2 hL
  exact lv_sipush E.1 E.2.1 d hv (kk ρ H locs ls hI a1 (z_ok_cons trivial (a2)) hL)
theorem z_lconst {X : PX} {cc : ByteArray} {own nm : String} {nL : Nat} {rm : Room} {ret : Option FieldType} (E : z_E X cc own nm nL rm ret) {k n pc : Nat} {lv : List (Nat × Value)} {st : List Value} {h : PH} {i : Fin 2} {v : Int64} (d : decode cc pc = .ok (.lconst i, 1)) (hv : Int64.ofNat (i : Nat) = v) (kk : WP X nL k n (pc + 1) lv (.long v :: st) h) : WP X nL k n pc lv (st) h := by
  obtain ⟨⟨p, l, e, R, s, m, args, below, meth, c⟩, D, cT, A, Q, ρ0, h0⟩ := X
  intro ρ H locs ls hI a1 a2 hL
  exact lv_lconst E.1 E.2.1 d hv (kk ρ H locs ls hI a1 (z_ok_cons trivial (a2)) hL)
theorem z_iload_n {X : PX} {cc : ByteArray} {own nm : String} {nL : Nat} {rm : Room} {ret : Option FieldType} (E : z_E X cc own nm nL rm ret) {k n pc : Nat} {lv : List (Nat × Value)} {st : List Value} {h : PH} {i : Fin 4} {x : Int32} (j : Nat) (d : decode cc pc = .ok (.iload_n i, 1)) (hj : lv[j]? = some ((i : Nat), .int x)) (kk : WP X nL k n (pc + 1) lv (.int x :: st) h) : WP X nL k n pc lv st h := by
  obtain ⟨⟨p, l, e, R, s, m, args, below, meth, c⟩, D, cT, A, Q, ρ0, h0⟩ := X
  intro ρ H locs ls hI a1 a2 hL
  exact lv_iload_n E.1 E.2.1 d rfl (z_lm_at hL j hj) (kk ρ H locs ls hI a1 (z_ok_cons (show z_okV h.1 (.int x) from a1 _ (List.mem_of_getElem? hj)) a2) hL)
theorem z_iload {X : PX} {cc : ByteArray} {own nm : String} {nL : Nat} {rm : Room} {ret : Option FieldType} (E : z_E X cc own nm nL rm ret) {k n pc : Nat} {lv : List (Nat × Value)} {st : List Value} {h : PH} {i : Nat} {x : Int32} (j : Nat) (d : decode cc pc = .ok (.iload i, 2)) (hj : lv[j]? = some (i, .int x)) (kk : WP X nL k n (pc + 2) lv (.int x :: st) h) : WP X nL k n pc lv st h := by
  obtain ⟨⟨p, l, e, R, s, m, args, below, meth, c⟩, D, cT, A, Q, ρ0, h0⟩ := X
  intro ρ H locs ls hI a1 a2 hL
  exact lv_iload E.1 E.2.1 d (z_lm_at hL j hj) (kk ρ H locs ls hI a1 (z_ok_cons (show z_okV h.1 (.int x) from a1 _ (List.mem_of_getElem? hj)) a2) hL)
theorem z_aload_n {X : PX} {cc : ByteArray} {own nm : String} {nL : Nat} {rm : Room} {ret : Option FieldType} (E : z_E X cc own nm nL rm ret) {k n pc : Nat} {lv : List (Nat × Value)} {st : List Value} {h : PH} {i : Fin 4} {x : Nat} (j : Nat) (d : decode cc pc = .ok (.aload_n i, 1)) (hj : lv[j]? = some ((i : Nat), .ref x)) (kk : WP X nL k n (pc + 1) lv (.ref x :: st) h) : WP X nL k n pc lv st h := by
  obtain ⟨⟨p, l, e, R, s, m, args, below, meth, c⟩, D, cT, A, Q, ρ0, h0⟩ := X
  intro ρ H locs ls hI a1 a2 hL
  exact lv_aload_n E.1 E.2.1 d rfl (z_lm_at hL j hj) (kk ρ H locs ls hI a1 (z_ok_cons (show z_okV h.1 (.ref x) from a1 _ (List.mem_of_getElem? hj)) a2) hL)
theorem z_aload {X : PX} {cc : ByteArray} {own nm : String} {nL : Nat} {rm : Room} {ret : Option FieldType} (E : z_E X cc own nm nL rm ret) {k n pc : Nat} {lv : List (Nat × Value)} {st : List Value} {h : PH} {i : Nat} {x : Nat} (j : Nat) (d : decode cc pc = .ok (.aload i, 2)) (hj : lv[j]? = some (i, .ref x)) (kk : WP X nL k n (pc + 2) lv (.ref x :: st) h) : WP X nL k n pc lv st h := by
  obtain ⟨⟨p, l, e, R, s, m, args, below, meth, c⟩, D, cT, A, Q, ρ0, h0⟩ := X
  intro ρ H locs ls hI a1 a2 hL
  exact lv_aload E.1 E.2.1 d (z_lm_at hL j hj) (kk ρ H locs ls hI a1 (z_ok_cons (show z_okV h.1 (.ref x) from a1 _ (List.mem_of_getElem? hj)) a2) hL)
theorem z_fload_n {X : PX} {cc : ByteArray} {own nm : String} {nL : Nat} {rm : Room} {ret : Option FieldType} (E : z_E X cc own nm nL rm ret) {k n pc : Nat} {lv : List (Nat × Value)} {st : List Value} {h : PH} {i : Fin 4} {x : UInt32} (j : Nat) (d : decode cc pc = .ok (.fload_n i, 1)) (hj : lv[j]? = some ((i : Nat), .float x)) (kk : WP X nL k n (pc + 1) lv (.float x :: st) h) : WP X nL k n pc lv st h := by
  obtain ⟨⟨p, l, e, R, s, m, args, below, meth, c⟩, D, cT, A, Q, ρ0, h0⟩ := X
  intro ρ H locs ls hI a1 a2 hL
  exact lv_fload_n E.1 E.2.1 d rfl (z_lm_at hL j hj) (kk ρ H locs ls hI a1 (z_ok_cons (show z_okV h.1 (.float x) from a1 _ (List.mem_of_getElem? hj)) a2) hL)
theorem z_fload {X : PX} {cc : ByteArray} {own nm : String} {nL : Nat} {rm : Room} {ret : Option FieldType} (E : z_E X cc own nm nL rm ret) {k n pc : Nat} {lv : List (Nat × Value)} {st : List Value} {h : PH} {i : Nat} {x : UInt32} (j : Nat) (d : decode cc pc = .ok (.fload i, 2)) (hj : lv[j]? = some (i, .float x)) (kk : WP X nL k n (pc + 2) lv (.float x :: st) h) : WP X nL k n pc lv st h := by
  obtain ⟨⟨p, l, e, R, s, m, args, below, meth, c⟩, D, cT, A, Q, ρ0, h0⟩ := X
  intro ρ H locs ls hI a1 a2 hL
  exact lv_fload E.1 E.2.1 d (z_lm_at hL j hj) (kk ρ H locs ls hI a1 (z_ok_cons (show z_okV h.1 (.float x) from a1 _ (List.mem_of_getElem? hj)) a2) hL)
theorem z_dload_n {X : PX} {cc : ByteArray} {own nm : String} {nL : Nat} {rm : Room} {ret : Option FieldType} (E : z_E X cc own nm nL rm ret) {k n pc : Nat} {lv : List (Nat × Value)} {st : List Value} {h : PH} {i : Fin 4} {x : UInt64} (j : Nat) (d : decode cc pc = .ok (.dload_n i, 1)) (hj : lv[j]? = some ((i : Nat), .double x)) (kk : WP X nL k n (pc + 1) lv (.double x :: st) h) : WP X nL k n pc lv st h := by
  obtain ⟨⟨p, l, e, R, s, m, args, below, meth, c⟩, D, cT, A, Q, ρ0, h0⟩ := X
  intro ρ H locs ls hI a1 a2 hL
  exact lv_dload_n E.1 E.2.1 d rfl (z_lm_at hL j hj) (kk ρ H locs ls hI a1 (z_ok_cons (show z_okV h.1 (.double x) from a1 _ (List.mem_of_getElem? hj)) a2) hL)
theorem z_dload {X : PX} {cc : ByteArray} {own nm : String} {nL : Nat} {rm : Room} {ret : Option FieldType} (E : z_E X cc own nm nL rm ret) {k n pc : Nat} {lv : List (Nat × Value)} {st : List Value} {h : PH} {i : Nat} {x : UInt64} (j : Nat) (d : decode cc pc = .ok (.dload i, 2)) (hj : lv[j]? = some (i, .double x)) (kk : WP X nL k n (pc + 2) lv (.double x :: st) h) : WP X nL k n pc lv st h := by
  obtain ⟨⟨p, l, e, R, s, m, args, below, meth, c⟩, D, cT, A, Q, ρ0, h0⟩ := X
  intro ρ H locs ls hI a1 a2 hL
  exact lv_dload E.1 E.2.1 d (z_lm_at hL j hj) (kk ρ H locs ls hI a1 (z_ok_cons (show z_okV h.1 (.double x) from a1 _ (List.mem_of_getElem? hj)) a2) hL)
theorem z_lload_n {X : PX} {cc : ByteArray} {own nm : String} {nL : Nat} {rm : Room} {ret : Option FieldType} (E : z_E X cc own nm nL rm ret) {k n pc : Nat} {lv : List (Nat × Value)} {st : List Value} {h : PH} {i : Fin 4} {x : Int64} (j : Nat) (d : decode cc pc = .ok (.lload_n i, 1)) (hj : lv[j]? = some ((i : Nat), .long x)) (kk : WP X nL k n (pc + 1) lv (.long x :: st) h) : WP X nL k n pc lv st h := by
  obtain ⟨⟨p, l, e, R, s, m, args, below, meth, c⟩, D, cT, A, Q, ρ0, h0⟩ := X
  intro ρ H locs ls hI a1 a2 hL
  exact lv_lload_n E.1 E.2.1 d rfl (z_lm_at hL j hj) (kk ρ H locs ls hI a1 (z_ok_cons (show z_okV h.1 (.long x) from a1 _ (List.mem_of_getElem? hj)) a2) hL)
theorem z_lload {X : PX} {cc : ByteArray} {own nm : String} {nL : Nat} {rm : Room} {ret : Option FieldType} (E : z_E X cc own nm nL rm ret) {k n pc : Nat} {lv : List (Nat × Value)} {st : List Value} {h : PH} {i : Nat} {x : Int64} (j : Nat) (d : decode cc pc = .ok (.lload i, 2)) (hj : lv[j]? = some (i, .long x)) (kk : WP X nL k n (pc + 2) lv (.long x :: st) h) : WP X nL k n pc lv st h := by
  obtain ⟨⟨p, l, e, R, s, m, args, below, meth, c⟩, D, cT, A, Q, ρ0, h0⟩ := X
  intro ρ H locs ls hI a1 a2 hL
  exact lv_lload E.1 E.2.1 d (z_lm_at hL j hj) (kk ρ H locs ls hI a1 (z_ok_cons (show z_okV h.1 (.long x) from a1 _ (List.mem_of_getElem? hj)) a2) hL)
theorem z_aloadN_n {X : PX} {cc : ByteArray} {own nm : String} {nL : Nat} {rm : Room} {ret : Option FieldType} (E : z_E X cc own nm nL rm ret) {k n pc : Nat} {lv : List (Nat × Value)} {st : List Value} {h : PH} {i : Fin 4} (j : Nat) (d : decode cc pc = .ok (.aload_n i, 1)) (hj : lv[j]? = some ((i : Nat), .null)) (kk : WP X nL k n (pc + 1) lv (.null :: st) h) : WP X nL k n pc lv st h := by
  obtain ⟨⟨p, l, e, R, s, m, args, below, meth, c⟩, D, cT, A, Q, ρ0, h0⟩ := X
  intro ρ H locs ls hI a1 a2 hL
  exact lv_aload_nN E.1 E.2.1 d rfl (z_lm_at hL j hj) (kk ρ H locs ls hI a1 (z_ok_cons trivial a2) hL)
theorem z_aloadN {X : PX} {cc : ByteArray} {own nm : String} {nL : Nat} {rm : Room} {ret : Option FieldType} (E : z_E X cc own nm nL rm ret) {k n pc : Nat} {lv : List (Nat × Value)} {st : List Value} {h : PH} {i : Nat} (j : Nat) (d : decode cc pc = .ok (.aload i, 2)) (hj : lv[j]? = some (i, .null)) (kk : WP X nL k n (pc + 2) lv (.null :: st) h) : WP X nL k n pc lv st h := by
  obtain ⟨⟨p, l, e, R, s, m, args, below, meth, c⟩, D, cT, A, Q, ρ0, h0⟩ := X
  intro ρ H locs ls hI a1 a2 hL
  exact lv_aloadN E.1 E.2.1 d (z_lm_at hL j hj) (kk ρ H locs ls hI a1 (z_ok_cons trivial a2) hL)
theorem z_istore_n {X : PX} {cc : ByteArray} {own nm : String} {nL : Nat} {rm : Room} {ret : Option FieldType} (E : z_E X cc own nm nL rm ret) {k n pc : Nat} {lv : List (Nat × Value)} {st : List Value} {h : PH} {i : Fin 4} {x : Int32} {lv2 : List (Nat × Value)} (d : decode cc pc = .ok (.istore_n i, 1)) (hn : (i : Nat) < nL) (hl : ((i : Nat), Value.int x) :: lv.filter (fun q => !(q.1 == (i : Nat)) && !(q.1 + 1 == (i : Nat) && q.2.category == 2)) = lv2) (kk : WP X nL k n (pc + 1) lv2 st h) : WP X nL k n pc lv (.int x :: st) h := by
  obtain ⟨⟨p, l, e, R, s, m, args, below, meth, c⟩, D, cT, A, Q, ρ0, h0⟩ := X
  intro ρ H locs ls hI a1 a2 hL
  exact lv_istore_n E.1 E.2.1 d rfl hL hn (z_lm_set1 hl) (fun ls2 hL2 => kk ρ H locs ls2 hI (z_ok_set hl (z_ok_hd a2) a1) (z_ok_tl a2) hL2)
theorem z_istore {X : PX} {cc : ByteArray} {own nm : String} {nL : Nat} {rm : Room} {ret : Option FieldType} (E : z_E X cc own nm nL rm ret) {k n pc : Nat} {lv : List (Nat × Value)} {st : List Value} {h : PH} {i : Nat} {x : Int32} {lv2 : List (Nat × Value)} (d : decode cc pc = .ok (.istore i, 2)) (hn : i < nL) (hl : (i, Value.int x) :: lv.filter (fun q => !(q.1 == i) && !(q.1 + 1 == i && q.2.category == 2)) = lv2) (kk : WP X nL k n (pc + 2) lv2 st h) : WP X nL k n pc lv (.int x :: st) h := by
  obtain ⟨⟨p, l, e, R, s, m, args, below, meth, c⟩, D, cT, A, Q, ρ0, h0⟩ := X
  intro ρ H locs ls hI a1 a2 hL
  exact lv_istore E.1 E.2.1 d hL hn (z_lm_set1 hl) (fun ls2 hL2 => kk ρ H locs ls2 hI (z_ok_set hl (z_ok_hd a2) a1) (z_ok_tl a2) hL2)
theorem z_astore_n {X : PX} {cc : ByteArray} {own nm : String} {nL : Nat} {rm : Room} {ret : Option FieldType} (E : z_E X cc own nm nL rm ret) {k n pc : Nat} {lv : List (Nat × Value)} {st : List Value} {h : PH} {i : Fin 4} {x : Nat} {lv2 : List (Nat × Value)} (d : decode cc pc = .ok (.astore_n i, 1)) (hn : (i : Nat) < nL) (hl : ((i : Nat), Value.ref x) :: lv.filter (fun q => !(q.1 == (i : Nat)) && !(q.1 + 1 == (i : Nat) && q.2.category == 2)) = lv2) (kk : WP X nL k n (pc + 1) lv2 st h) : WP X nL k n pc lv (.ref x :: st) h := by
  obtain ⟨⟨p, l, e, R, s, m, args, below, meth, c⟩, D, cT, A, Q, ρ0, h0⟩ := X
  intro ρ H locs ls hI a1 a2 hL
  exact lv_astore_n E.1 E.2.1 d rfl hL hn (z_lm_set1 hl) (fun ls2 hL2 => kk ρ H locs ls2 hI (z_ok_set hl (z_ok_hd a2) a1) (z_ok_tl a2) hL2)
theorem z_astore {X : PX} {cc : ByteArray} {own nm : String} {nL : Nat} {rm : Room} {ret : Option FieldType} (E : z_E X cc own nm nL rm ret) {k n pc : Nat} {lv : List (Nat × Value)} {st : List Value} {h : PH} {i : Nat} {x : Nat} {lv2 : List (Nat × Value)} (d : decode cc pc = .ok (.astore i, 2)) (hn : i < nL) (hl : (i, Value.ref x) :: lv.filter (fun q => !(q.1 == i) && !(q.1 + 1 == i && q.2.category == 2)) = lv2) (kk : WP X nL k n (pc + 2) lv2 st h) : WP X nL k n pc lv (.ref x :: st) h := by
  obtain ⟨⟨p, l, e, R, s, m, args, below, meth, c⟩, D, cT, A, Q, ρ0, h0⟩ := X
  intro ρ H locs ls hI a1 a2 hL
  exact lv_astore E.1 E.2.1 d hL hn (z_lm_set1 hl) (fun ls2 hL2 => kk ρ H locs ls2 hI (z_ok_set hl (z_ok_hd a2) a1) (z_ok_tl a2) hL2)
theorem z_fstore_n {X : PX} {cc : ByteArray} {own nm : String} {nL : Nat} {rm : Room} {ret : Option FieldType} (E : z_E X cc own nm nL rm ret) {k n pc : Nat} {lv : List (Nat × Value)} {st : List Value} {h : PH} {i : Fin 4} {x : UInt32} {lv2 : List (Nat × Value)} (d : decode cc pc = .ok (.fstore_n i, 1)) (hn : (i : Nat) < nL) (hl : ((i : Nat), Value.float x) :: lv.filter (fun q => !(q.1 == (i : Nat)) && !(q.1 + 1 == (i : Nat) && q.2.category == 2)) = lv2) (kk : WP X nL k n (pc + 1) lv2 st h) : WP X nL k n pc lv (.float x :: st) h := by
  obtain ⟨⟨p, l, e, R, s, m, args, below, meth, c⟩, D, cT, A, Q, ρ0, h0⟩ := X
  intro ρ H locs ls hI a1 a2 hL
  exact lv_fstore_n E.1 E.2.1 d rfl hL hn (z_lm_set1 hl) (fun ls2 hL2 => kk ρ H locs ls2 hI (z_ok_set hl (z_ok_hd a2) a1) (z_ok_tl a2) hL2)
theorem z_fstore {X : PX} {cc : ByteArray} {own nm : String} {nL : Nat} {rm : Room} {ret : Option FieldType} (E : z_E X cc own nm nL rm ret) {k n pc : Nat} {lv : List (Nat × Value)} {st : List Value} {h : PH} {i : Nat} {x : UInt32} {lv2 : List (Nat × Value)} (d : decode cc pc = .ok (.fstore i, 2)) (hn : i < nL) (hl : (i, Value.float x) :: lv.filter (fun q => !(q.1 == i) && !(q.1 + 1 == i && q.2.category == 2)) = lv2) (kk : WP X nL k n (pc + 2) lv2 st h) : WP X nL k n pc lv (.float x :: st) h := by
  obtain ⟨⟨p, l, e, R, s, m, args, below, meth, c⟩, D, cT, A, Q, ρ0, h0⟩ := X
  intro ρ H locs ls hI a1 a2 hL
  exact lv_fstore E.1 E.2.1 d hL hn (z_lm_set1 hl) (fun ls2 hL2 => kk ρ H locs ls2 hI (z_ok_set hl (z_ok_hd a2) a1) (z_ok_tl a2) hL2)
theorem z_dstore {X : PX} {cc : ByteArray} {own nm : String} {nL : Nat} {rm : Room} {ret : Option FieldType} (E : z_E X cc own nm nL rm ret) {k n pc : Nat} {lv : List (Nat × Value)} {st : List Value} {h : PH} {i : Nat} {x : UInt64} {lv2 : List (Nat × Value)} (d : decode cc pc = .ok (.dstore i, 2)) (hn : i + 1 < nL) (hl : (i, Value.double x) :: lv.filter (fun q => !(q.1 == i) && (!(q.1 == i + 1) && !(q.1 + 1 == i && q.2.category == 2))) = lv2) (kk : WP X nL k n (pc + 2) lv2 st h) : WP X nL k n pc lv (.double x :: st) h := by
  obtain ⟨⟨p, l, e, R, s, m, args, below, meth, c⟩, D, cT, A, Q, ρ0, h0⟩ := X
  intro ρ H locs ls hI a1 a2 hL
  exact lv_dstore E.1 E.2.1 d hL hn (z_lm_set2 hl) (fun ls2 hL2 => kk ρ H locs ls2 hI (z_ok_set hl (z_ok_hd a2) a1) (z_ok_tl a2) hL2)
theorem z_lstore {X : PX} {cc : ByteArray} {own nm : String} {nL : Nat} {rm : Room} {ret : Option FieldType} (E : z_E X cc own nm nL rm ret) {k n pc : Nat} {lv : List (Nat × Value)} {st : List Value} {h : PH} {i : Nat} {x : Int64} {lv2 : List (Nat × Value)} (d : decode cc pc = .ok (.lstore i, 2)) (hn : i + 1 < nL) (hl : (i, Value.long x) :: lv.filter (fun q => !(q.1 == i) && (!(q.1 == i + 1) && !(q.1 + 1 == i && q.2.category == 2))) = lv2) (kk : WP X nL k n (pc + 2) lv2 st h) : WP X nL k n pc lv (.long x :: st) h := by
  obtain ⟨⟨p, l, e, R, s, m, args, below, meth, c⟩, D, cT, A, Q, ρ0, h0⟩ := X
  intro ρ H locs ls hI a1 a2 hL
  exact lv_lstore E.1 E.2.1 d hL hn (z_lm_set2 hl) (fun ls2 hL2 => kk ρ H locs ls2 hI (z_ok_set hl (z_ok_hd a2) a1) (z_ok_tl a2) hL2)
theorem z_iinc {X : PX} {cc : ByteArray} {own nm : String} {nL : Nat} {rm : Room} {ret : Option FieldType} (E : z_E X cc own nm nL rm ret) {k n pc : Nat} {lv : List (Nat × Value)} {st : List Value} {h : PH} {i : Nat} {b : Int} {x v : Int32} {lv2 : List (Nat × Value)} (j : Nat) (d : decode cc pc = .ok (.iinc i b, 3)) (hj : lv[j]? = some (i, .int x)) (hv : x + Int32.ofInt b = v) (hn : i < nL) (hl : (i, Value.int v) :: lv.filter (fun q => !(q.1 == i) && !(q.1 + 1 == i && q.2.category == 2)) = lv2) (kk : WP X nL k n (pc + 3) lv2 st h) : WP X nL k n pc lv st h := by
  obtain ⟨⟨p, l, e, R, s, m, args, below, meth, c⟩, D, cT, A, Q, ρ0, h0⟩ := X
  intro ρ H locs ls hI a1 a2 hL
  exact lv_iinc (k := j) E.1 E.2.1 d hL (by unfold z_lm; rw [List.getElem?_map, hj]; rfl) hv hn (z_lm_set1 (v := .int v) hl) (fun ls2 hL2 => kk ρ H locs ls2 hI (z_ok_set hl trivial a1) a2 hL2)
theorem z_iadd {X : PX} {cc : ByteArray} {own nm : String} {nL : Nat} {rm : Room} {ret : Option FieldType} (E : z_E X cc own nm nL rm ret) {k n pc : Nat} {lv : List (Nat × Value)} {st : List Value} {h : PH} {x y : Int32} (d : decode cc pc = .ok (.iadd, 1))  (kk : WP X nL k n (pc + 1) lv (.int (x + y) :: st) h) : WP X nL k n pc lv (.int y :: .int x :: st) h := by
  obtain ⟨⟨p, l, e, R, s, m, args, below, meth, c⟩, D, cT, A, Q, ρ0, h0⟩ := X
  intro ρ H locs ls hI a1 a2 hL
  exact lv_iadd E.1 E.2.1 d  (kk ρ H locs ls hI a1 (z_ok_cons trivial (z_ok_tl (z_ok_tl a2))) hL)
theorem z_isub {X : PX} {cc : ByteArray} {own nm : String} {nL : Nat} {rm : Room} {ret : Option FieldType} (E : z_E X cc own nm nL rm ret) {k n pc : Nat} {lv : List (Nat × Value)} {st : List Value} {h : PH} {x y : Int32} (d : decode cc pc = .ok (.isub, 1))  (kk : WP X nL k n (pc + 1) lv (.int (x - y) :: st) h) : WP X nL k n pc lv (.int y :: .int x :: st) h := by
  obtain ⟨⟨p, l, e, R, s, m, args, below, meth, c⟩, D, cT, A, Q, ρ0, h0⟩ := X
  intro ρ H locs ls hI a1 a2 hL
  exact lv_isub E.1 E.2.1 d  (kk ρ H locs ls hI a1 (z_ok_cons trivial (z_ok_tl (z_ok_tl a2))) hL)
theorem z_imul {X : PX} {cc : ByteArray} {own nm : String} {nL : Nat} {rm : Room} {ret : Option FieldType} (E : z_E X cc own nm nL rm ret) {k n pc : Nat} {lv : List (Nat × Value)} {st : List Value} {h : PH} {x y : Int32} (d : decode cc pc = .ok (.imul, 1))  (kk : WP X nL k n (pc + 1) lv (.int (x * y) :: st) h) : WP X nL k n pc lv (.int y :: .int x :: st) h := by
  obtain ⟨⟨p, l, e, R, s, m, args, below, meth, c⟩, D, cT, A, Q, ρ0, h0⟩ := X
  intro ρ H locs ls hI a1 a2 hL
  exact lv_imul E.1 E.2.1 d  (kk ρ H locs ls hI a1 (z_ok_cons trivial (z_ok_tl (z_ok_tl a2))) hL)
theorem z_iand {X : PX} {cc : ByteArray} {own nm : String} {nL : Nat} {rm : Room} {ret : Option FieldType} (E : z_E X cc own nm nL rm ret) {k n pc : Nat} {lv : List (Nat × Value)} {st : List Value} {h : PH} {x y : Int32} (d : decode cc pc = .ok (.iand, 1))  (kk : WP X nL k n (pc + 1) lv (.int (x &&& y) :: st) h) : WP X nL k n pc lv (.int y :: .int x :: st) h := by
  obtain ⟨⟨p, l, e, R, s, m, args, below, meth, c⟩, D, cT, A, Q, ρ0, h0⟩ := X
  intro ρ H locs ls hI a1 a2 hL
  exact lv_iand E.1 E.2.1 d  (kk ρ H locs ls hI a1 (z_ok_cons trivial (z_ok_tl (z_ok_tl a2))) hL)
theorem z_ior {X : PX} {cc : ByteArray} {own nm : String} {nL : Nat} {rm : Room} {ret : Option FieldType} (E : z_E X cc own nm nL rm ret) {k n pc : Nat} {lv : List (Nat × Value)} {st : List Value} {h : PH} {x y : Int32} (d : decode cc pc = .ok (.ior, 1))  (kk : WP X nL k n (pc + 1) lv (.int (x ||| y) :: st) h) : WP X nL k n pc lv (.int y :: .int x :: st) h := by
  obtain ⟨⟨p, l, e, R, s, m, args, below, meth, c⟩, D, cT, A, Q, ρ0, h0⟩ := X
  intro ρ H locs ls hI a1 a2 hL
  exact lv_ior E.1 E.2.1 d  (kk ρ H locs ls hI a1 (z_ok_cons trivial (z_ok_tl (z_ok_tl a2))) hL)
theorem z_ixor {X : PX} {cc : ByteArray} {own nm : String} {nL : Nat} {rm : Room} {ret : Option FieldType} (E : z_E X cc own nm nL rm ret) {k n pc : Nat} {lv : List (Nat × Value)} {st : List Value} {h : PH} {x y : Int32} (d : decode cc pc = .ok (.ixor, 1))  (kk : WP X nL k n (pc + 1) lv (.int (x ^^^ y) :: st) h) : WP X nL k n pc lv (.int y :: .int x :: st) h := by
  obtain ⟨⟨p, l, e, R, s, m, args, below, meth, c⟩, D, cT, A, Q, ρ0, h0⟩ := X
  intro ρ H locs ls hI a1 a2 hL
  exact lv_ixor E.1 E.2.1 d  (kk ρ H locs ls hI a1 (z_ok_cons trivial (z_ok_tl (z_ok_tl a2))) hL)
theorem z_ishl {X : PX} {cc : ByteArray} {own nm : String} {nL : Nat} {rm : Room} {ret : Option FieldType} (E : z_E X cc own nm nL rm ret) {k n pc : Nat} {lv : List (Nat × Value)} {st : List Value} {h : PH} {x y : Int32} (d : decode cc pc = .ok (.ishl, 1))  (kk : WP X nL k n (pc + 1) lv (.int (x <<< (y &&& 31)) :: st) h) : WP X nL k n pc lv (.int y :: .int x :: st) h := by
  obtain ⟨⟨p, l, e, R, s, m, args, below, meth, c⟩, D, cT, A, Q, ρ0, h0⟩ := X
  intro ρ H locs ls hI a1 a2 hL
  exact lv_ishl E.1 E.2.1 d  (kk ρ H locs ls hI a1 (z_ok_cons trivial (z_ok_tl (z_ok_tl a2))) hL)
theorem z_ishr {X : PX} {cc : ByteArray} {own nm : String} {nL : Nat} {rm : Room} {ret : Option FieldType} (E : z_E X cc own nm nL rm ret) {k n pc : Nat} {lv : List (Nat × Value)} {st : List Value} {h : PH} {x y : Int32} (d : decode cc pc = .ok (.ishr, 1))  (kk : WP X nL k n (pc + 1) lv (.int (x >>> (y &&& 31)) :: st) h) : WP X nL k n pc lv (.int y :: .int x :: st) h := by
  obtain ⟨⟨p, l, e, R, s, m, args, below, meth, c⟩, D, cT, A, Q, ρ0, h0⟩ := X
  intro ρ H locs ls hI a1 a2 hL
  exact lv_ishr E.1 E.2.1 d  (kk ρ H locs ls hI a1 (z_ok_cons trivial (z_ok_tl (z_ok_tl a2))) hL)
theorem z_ineg {X : PX} {cc : ByteArray} {own nm : String} {nL : Nat} {rm : Room} {ret : Option FieldType} (E : z_E X cc own nm nL rm ret) {k n pc : Nat} {lv : List (Nat × Value)} {st : List Value} {h : PH} {x : Int32} (d : decode cc pc = .ok (.ineg, 1))  (kk : WP X nL k n (pc + 1) lv (.int (-x) :: st) h) : WP X nL k n pc lv (.int x :: st) h := by
  obtain ⟨⟨p, l, e, R, s, m, args, below, meth, c⟩, D, cT, A, Q, ρ0, h0⟩ := X
  intro ρ H locs ls hI a1 a2 hL
  exact lv_ineg E.1 E.2.1 d  (kk ρ H locs ls hI a1 (z_ok_cons trivial (z_ok_tl a2)) hL)
theorem z_iushr {X : PX} {cc : ByteArray} {own nm : String} {nL : Nat} {rm : Room} {ret : Option FieldType} (E : z_E X cc own nm nL rm ret) {k n pc : Nat} {lv : List (Nat × Value)} {st : List Value} {h : PH} {x y v : Int32} (d : decode cc pc = .ok (.iushr, 1)) (hv : (x.toUInt32 >>> (y.toUInt32 &&& Int32.toUInt32 31)).toInt32 = v) (kk : WP X nL k n (pc + 1) lv (.int v :: st) h) : WP X nL k n pc lv (.int y :: .int x :: st) h := by
  obtain ⟨⟨p, l, e, R, s, m, args, below, meth, c⟩, D, cT, A, Q, ρ0, h0⟩ := X
  intro ρ H locs ls hI a1 a2 hL
  exact lv_iushr E.1 E.2.1 d hv (kk ρ H locs ls hI a1 (z_ok_cons trivial (z_ok_tl (z_ok_tl a2))) hL)
theorem z_idiv {X : PX} {cc : ByteArray} {own nm : String} {nL : Nat} {rm : Room} {ret : Option FieldType} (E : z_E X cc own nm nL rm ret) {k n pc : Nat} {lv : List (Nat × Value)} {st : List Value} {h : PH} {x y : Int32} (d : decode cc pc = .ok (.idiv, 1)) (hne : ¬ y = 0) (kk : WP X nL k n (pc + 1) lv (.int (x / y) :: st) h) : WP X nL k n pc lv (.int y :: .int x :: st) h := by
  obtain ⟨⟨p, l, e, R, s, m, args, below, meth, c⟩, D, cT, A, Q, ρ0, h0⟩ := X
  intro ρ H locs ls hI a1 a2 hL
  exact lv_idiv E.1 E.2.1 d hne (kk ρ H locs ls hI a1 (z_ok_cons trivial (z_ok_tl (z_ok_tl a2))) hL)
theorem z_irem {X : PX} {cc : ByteArray} {own nm : String} {nL : Nat} {rm : Room} {ret : Option FieldType} (E : z_E X cc own nm nL rm ret) {k n pc : Nat} {lv : List (Nat × Value)} {st : List Value} {h : PH} {x y : Int32} (d : decode cc pc = .ok (.irem, 1)) (hne : ¬ y = 0) (kk : WP X nL k n (pc + 1) lv (.int (x - x / y * y) :: st) h) : WP X nL k n pc lv (.int y :: .int x :: st) h := by
  obtain ⟨⟨p, l, e, R, s, m, args, below, meth, c⟩, D, cT, A, Q, ρ0, h0⟩ := X
  intro ρ H locs ls hI a1 a2 hL
  exact lv_irem E.1 E.2.1 d hne (kk ρ H locs ls hI a1 (z_ok_cons trivial (z_ok_tl (z_ok_tl a2))) hL)
theorem z_i2l {X : PX} {cc : ByteArray} {own nm : String} {nL : Nat} {rm : Room} {ret : Option FieldType} (E : z_E X cc own nm nL rm ret) {k n pc : Nat} {lv : List (Nat × Value)} {st : List Value} {h : PH} {x : Int32} {v : Int64} (d : decode cc pc = .ok (.i2l, 1)) (hv : x.toInt64 = v) (kk : WP X nL k n (pc + 1) lv (.long v :: st) h) : WP X nL k n pc lv (.int x :: st) h := by
  obtain ⟨⟨p, l, e, R, s, m, args, below, meth, c⟩, D, cT, A, Q, ρ0, h0⟩ := X
  intro ρ H locs ls hI a1 a2 hL
  exact lv_i2l E.1 E.2.1 d hv (kk ρ H locs ls hI a1 (z_ok_cons trivial (z_ok_tl a2)) hL)
theorem z_i2c {X : PX} {cc : ByteArray} {own nm : String} {nL : Nat} {rm : Room} {ret : Option FieldType} (E : z_E X cc own nm nL rm ret) {k n pc : Nat} {lv : List (Nat × Value)} {st : List Value} {h : PH} {x v : Int32} (d : decode cc pc = .ok (.i2c, 1)) (hv : (x.toUInt32 % 65536).toInt32 = v) (kk : WP X nL k n (pc + 1) lv (.int v :: st) h) : WP X nL k n pc lv (.int x :: st) h := by
  obtain ⟨⟨p, l, e, R, s, m, args, below, meth, c⟩, D, cT, A, Q, ρ0, h0⟩ := X
  intro ρ H locs ls hI a1 a2 hL
  exact lv_i2c E.1 E.2.1 d hv (kk ρ H locs ls hI a1 (z_ok_cons trivial (z_ok_tl a2)) hL)
theorem z_i2b {X : PX} {cc : ByteArray} {own nm : String} {nL : Nat} {rm : Room} {ret : Option FieldType} (E : z_E X cc own nm nL rm ret) {k n pc : Nat} {lv : List (Nat × Value)} {st : List Value} {h : PH} {x v : Int32} (d : decode cc pc = .ok (.i2b, 1)) (hv : x.toInt8.toInt32 = v) (kk : WP X nL k n (pc + 1) lv (.int v :: st) h) : WP X nL k n pc lv (.int x :: st) h := by
  obtain ⟨⟨p, l, e, R, s, m, args, below, meth, c⟩, D, cT, A, Q, ρ0, h0⟩ := X
  intro ρ H locs ls hI a1 a2 hL
  exact lv_i2b E.1 E.2.1 d hv (kk ρ H locs ls hI a1 (z_ok_cons trivial (z_ok_tl a2)) hL)
theorem z_i2d {X : PX} {cc : ByteArray} {own nm : String} {nL : Nat} {rm : Room} {ret : Option FieldType} (E : z_E X cc own nm nL rm ret) {k n pc : Nat} {lv : List (Nat × Value)} {st : List Value} {h : PH} {x : Int32} (d : decode cc pc = .ok (.i2d, 1))  (kk : WP X nL k n (pc + 1) lv (.double (FP.i2d x) :: st) h) : WP X nL k n pc lv (.int x :: st) h := by
  obtain ⟨⟨p, l, e, R, s, m, args, below, meth, c⟩, D, cT, A, Q, ρ0, h0⟩ := X
  intro ρ H locs ls hI a1 a2 hL
  exact lv_i2d E.1 E.2.1 d  (kk ρ H locs ls hI a1 (z_ok_cons trivial (z_ok_tl a2)) hL)
theorem z_i2f {X : PX} {cc : ByteArray} {own nm : String} {nL : Nat} {rm : Room} {ret : Option FieldType} (E : z_E X cc own nm nL rm ret) {k n pc : Nat} {lv : List (Nat × Value)} {st : List Value} {h : PH} {x : Int32} (d : decode cc pc = .ok (.i2f, 1))  (kk : WP X nL k n (pc + 1) lv (.float (FP.i2f x) :: st) h) : WP X nL k n pc lv (.int x :: st) h := by
  obtain ⟨⟨p, l, e, R, s, m, args, below, meth, c⟩, D, cT, A, Q, ρ0, h0⟩ := X
  intro ρ H locs ls hI a1 a2 hL
  exact lv_i2f E.1 E.2.1 d  (kk ρ H locs ls hI a1 (z_ok_cons trivial (z_ok_tl a2)) hL)
theorem z_ddiv {X : PX} {cc : ByteArray} {own nm : String} {nL : Nat} {rm : Room} {ret : Option FieldType} (E : z_E X cc own nm nL rm ret) {k n pc : Nat} {lv : List (Nat × Value)} {st : List Value} {h : PH} {x y : UInt64} (d : decode cc pc = .ok (.ddiv, 1)) (hne : vf_n64 (FP.ddiv x y)) (kk : WP X nL k n (pc + 1) lv (.double (FP.ddiv x y) :: st) h) : WP X nL k n pc lv (.double y :: .double x :: st) h := by
  obtain ⟨⟨p, l, e, R, s, m, args, below, meth, c⟩, D, cT, A, Q, ρ0, h0⟩ := X
  intro ρ H locs ls hI a1 a2 hL
  exact lv_ddiv E.1 E.2.1 d hne (kk ρ H locs ls hI a1 (z_ok_cons trivial (z_ok_tl (z_ok_tl a2))) hL)
theorem z_fdiv {X : PX} {cc : ByteArray} {own nm : String} {nL : Nat} {rm : Room} {ret : Option FieldType} (E : z_E X cc own nm nL rm ret) {k n pc : Nat} {lv : List (Nat × Value)} {st : List Value} {h : PH} {x y : UInt32} (d : decode cc pc = .ok (.fdiv, 1)) (hne : vf_n32 (FP.fdiv x y)) (kk : WP X nL k n (pc + 1) lv (.float (FP.fdiv x y) :: st) h) : WP X nL k n pc lv (.float y :: .float x :: st) h := by
  obtain ⟨⟨p, l, e, R, s, m, args, below, meth, c⟩, D, cT, A, Q, ρ0, h0⟩ := X
  intro ρ H locs ls hI a1 a2 hL
  exact lv_fdiv E.1 E.2.1 d hne (kk ρ H locs ls hI a1 (z_ok_cons trivial (z_ok_tl (z_ok_tl a2))) hL)
theorem z_f2d {X : PX} {cc : ByteArray} {own nm : String} {nL : Nat} {rm : Room} {ret : Option FieldType} (E : z_E X cc own nm nL rm ret) {k n pc : Nat} {lv : List (Nat × Value)} {st : List Value} {h : PH} {x : UInt32} (d : decode cc pc = .ok (.f2d, 1)) (hne : vf_n64 (FP.f2d x)) (kk : WP X nL k n (pc + 1) lv (.double (FP.f2d x) :: st) h) : WP X nL k n pc lv (.float x :: st) h := by
  obtain ⟨⟨p, l, e, R, s, m, args, below, meth, c⟩, D, cT, A, Q, ρ0, h0⟩ := X
  intro ρ H locs ls hI a1 a2 hL
  exact lv_f2d E.1 E.2.1 d hne (kk ρ H locs ls hI a1 (z_ok_cons trivial (z_ok_tl a2)) hL)
theorem z_dcmp {X : PX} {cc : ByteArray} {own nm : String} {nL : Nat} {rm : Room} {ret : Option FieldType} (E : z_E X cc own nm nL rm ret) {k n pc : Nat} {lv : List (Nat × Value)} {st : List Value} {h : PH} {x y : UInt64} {op : CmpOp} (d : decode cc pc = .ok (.dcmp op, 1))  (kk : WP X nL k n (pc + 1) lv (.int (Op.cmpValue (FP.dcmp x y) op) :: st) h) : WP X nL k n pc lv (.double y :: .double x :: st) h := by
  obtain ⟨⟨p, l, e, R, s, m, args, below, meth, c⟩, D, cT, A, Q, ρ0, h0⟩ := X
  intro ρ H locs ls hI a1 a2 hL
  exact lv_dcmp E.1 E.2.1 d  (kk ρ H locs ls hI a1 (z_ok_cons trivial (z_ok_tl (z_ok_tl a2))) hL)
theorem z_fcmp {X : PX} {cc : ByteArray} {own nm : String} {nL : Nat} {rm : Room} {ret : Option FieldType} (E : z_E X cc own nm nL rm ret) {k n pc : Nat} {lv : List (Nat × Value)} {st : List Value} {h : PH} {x y : UInt32} {op : CmpOp} (d : decode cc pc = .ok (.fcmp op, 1))  (kk : WP X nL k n (pc + 1) lv (.int (Op.cmpValue (FP.fcmp x y) op) :: st) h) : WP X nL k n pc lv (.float y :: .float x :: st) h := by
  obtain ⟨⟨p, l, e, R, s, m, args, below, meth, c⟩, D, cT, A, Q, ρ0, h0⟩ := X
  intro ρ H locs ls hI a1 a2 hL
  exact lv_fcmp E.1 E.2.1 d  (kk ρ H locs ls hI a1 (z_ok_cons trivial (z_ok_tl (z_ok_tl a2))) hL)
theorem z_lcmp {X : PX} {cc : ByteArray} {own nm : String} {nL : Nat} {rm : Room} {ret : Option FieldType} (E : z_E X cc own nm nL rm ret) {k n pc : Nat} {lv : List (Nat × Value)} {st : List Value} {h : PH} {x y : Int64} (d : decode cc pc = .ok (.lcmp, 1))  (kk : WP X nL k n (pc + 1) lv (.int (lg_cmp x y) :: st) h) : WP X nL k n pc lv (.long y :: .long x :: st) h := by
  obtain ⟨⟨p, l, e, R, s, m, args, below, meth, c⟩, D, cT, A, Q, ρ0, h0⟩ := X
  intro ρ H locs ls hI a1 a2 hL
  exact W.lcmp E.1 E.2.1 d  (kk ρ H locs ls hI a1 (z_ok_cons trivial (z_ok_tl (z_ok_tl a2))) hL)
theorem z_dup {X : PX} {cc : ByteArray} {own nm : String} {nL : Nat} {rm : Room} {ret : Option FieldType} (E : z_E X cc own nm nL rm ret) {k n pc : Nat} {lv : List (Nat × Value)} {st : List Value} {h : PH} {va : Value} (d : decode cc pc = .ok (.dup, 1)) (hc : va.category = 1) (kk : WP X nL k n (pc + 1) lv (va :: va :: st) h) : WP X nL k n pc lv (va :: st) h := by
  obtain ⟨⟨p, l, e, R, s, m, args, below, meth, c⟩, D, cT, A, Q, ρ0, h0⟩ := X
  intro ρ H locs ls hI a1 a2 hL
  exact lv_dup E.1 E.2.1 d (by rw [z_lm_cat]; exact hc) (kk ρ H locs ls hI a1 (z_ok_cons (z_ok_hd a2) a2) hL)
theorem z_pop {X : PX} {cc : ByteArray} {own nm : String} {nL : Nat} {rm : Room} {ret : Option FieldType} (E : z_E X cc own nm nL rm ret) {k n pc : Nat} {lv : List (Nat × Value)} {st : List Value} {h : PH} {va : Value} (d : decode cc pc = .ok (.pop, 1)) (hc : va.category = 1) (kk : WP X nL k n (pc + 1) lv (st) h) : WP X nL k n pc lv (va :: st) h := by
  obtain ⟨⟨p, l, e, R, s, m, args, below, meth, c⟩, D, cT, A, Q, ρ0, h0⟩ := X
  intro ρ H locs ls hI a1 a2 hL
  exact lv_pop E.1 E.2.1 d (by rw [z_lm_cat]; exact hc) (kk ρ H locs ls hI a1 (z_ok_tl a2) hL)
theorem z_dup2 {X : PX} {cc : ByteArray} {own nm : String} {nL : Nat} {rm : Room} {ret : Option FieldType} (E : z_E X cc own nm nL rm ret) {k n pc : Nat} {lv : List (Nat × Value)} {st : List Value} {h : PH} {va vb : Value} (d : decode cc pc = .ok (.dup2, 1)) (hc : va.category = 1) (hd : vb.category = 1) (kk : WP X nL k n (pc + 1) lv (va :: vb :: va :: vb :: st) h) : WP X nL k n pc lv (va :: vb :: st) h := by
  obtain ⟨⟨p, l, e, R, s, m, args, below, meth, c⟩, D, cT, A, Q, ρ0, h0⟩ := X
  intro ρ H locs ls hI a1 a2 hL
  exact lv_dup2_11 E.1 E.2.1 d (by rw [z_lm_cat]; exact hc) (by rw [z_lm_cat]; exact hd) (kk ρ H locs ls hI a1 (z_ok_cons (z_ok_hd a2) (z_ok_cons (z_ok_hd (z_ok_tl a2)) a2)) hL)
theorem z_if_eqT {X : PX} {cc : ByteArray} {own nm : String} {nL : Nat} {rm : Room} {ret : Option FieldType} (E : z_E X cc own nm nL rm ret) {k n pc : Nat} {lv : List (Nat × Value)} {st : List Value} {h : PH} {x : Int32} {off : Int} {tgt : Nat} (d : decode cc pc = .ok (.ifCond .eq off, 3)) (ht : (pc : Int) + off = (tgt : Int)) (hc : x = 0) (kk : WP X nL k n tgt lv st h) : WP X nL k n pc lv (.int x :: st) h := by
  obtain ⟨⟨p, l, e, R, s, m, args, below, meth, c⟩, D, cT, A, Q, ρ0, h0⟩ := X
  intro ρ H locs ls hI a1 a2 hL
  exact lv_if_eq E.1 E.2.1 d ht (fun _ => kk ρ H locs ls hI a1 (z_ok_tl a2) hL) (fun z => absurd hc z)
theorem z_if_eqF {X : PX} {cc : ByteArray} {own nm : String} {nL : Nat} {rm : Room} {ret : Option FieldType} (E : z_E X cc own nm nL rm ret) {k n pc : Nat} {lv : List (Nat × Value)} {st : List Value} {h : PH} {x : Int32} {off : Int} {tgt : Nat} (d : decode cc pc = .ok (.ifCond .eq off, 3)) (ht : (pc : Int) + off = (tgt : Int)) (hc : ¬ x = 0) (kk : WP X nL k n (pc + 3) lv st h) : WP X nL k n pc lv (.int x :: st) h := by
  obtain ⟨⟨p, l, e, R, s, m, args, below, meth, c⟩, D, cT, A, Q, ρ0, h0⟩ := X
  intro ρ H locs ls hI a1 a2 hL
  exact lv_if_eq E.1 E.2.1 d ht (fun z => absurd z hc) (fun _ => kk ρ H locs ls hI a1 (z_ok_tl a2) hL)
theorem z_icmp_eqT {X : PX} {cc : ByteArray} {own nm : String} {nL : Nat} {rm : Room} {ret : Option FieldType} (E : z_E X cc own nm nL rm ret) {k n pc : Nat} {lv : List (Nat × Value)} {st : List Value} {h : PH} {x y : Int32} {off : Int} {tgt : Nat} (d : decode cc pc = .ok (.if_icmp .eq off, 3)) (ht : (pc : Int) + off = (tgt : Int)) (hc : x = y) (kk : WP X nL k n tgt lv st h) : WP X nL k n pc lv (.int y :: .int x :: st) h := by
  obtain ⟨⟨p, l, e, R, s, m, args, below, meth, c⟩, D, cT, A, Q, ρ0, h0⟩ := X
  intro ρ H locs ls hI a1 a2 hL
  exact lv_icmp_eq E.1 E.2.1 d ht (fun _ => kk ρ H locs ls hI a1 (z_ok_tl (z_ok_tl a2)) hL) (fun z => absurd hc z)
theorem z_icmp_eqF {X : PX} {cc : ByteArray} {own nm : String} {nL : Nat} {rm : Room} {ret : Option FieldType} (E : z_E X cc own nm nL rm ret) {k n pc : Nat} {lv : List (Nat × Value)} {st : List Value} {h : PH} {x y : Int32} {off : Int} {tgt : Nat} (d : decode cc pc = .ok (.if_icmp .eq off, 3)) (ht : (pc : Int) + off = (tgt : Int)) (hc : ¬ x = y) (kk : WP X nL k n (pc + 3) lv st h) : WP X nL k n pc lv (.int y :: .int x :: st) h := by
  obtain ⟨⟨p, l, e, R, s, m, args, below, meth, c⟩, D, cT, A, Q, ρ0, h0⟩ := X
  intro ρ H locs ls hI a1 a2 hL
  exact lv_icmp_eq E.1 E.2.1 d ht (fun z => absurd z hc) (fun _ => kk ρ H locs ls hI a1 (z_ok_tl (z_ok_tl a2)) hL)
theorem z_if_neT {X : PX} {cc : ByteArray} {own nm : String} {nL : Nat} {rm : Room} {ret : Option FieldType} (E : z_E X cc own nm nL rm ret) {k n pc : Nat} {lv : List (Nat × Value)} {st : List Value} {h : PH} {x : Int32} {off : Int} {tgt : Nat} (d : decode cc pc = .ok (.ifCond .ne off, 3)) (ht : (pc : Int) + off = (tgt : Int)) (hc : ¬ x = 0) (kk : WP X nL k n tgt lv st h) : WP X nL k n pc lv (.int x :: st) h := by
  obtain ⟨⟨p, l, e, R, s, m, args, below, meth, c⟩, D, cT, A, Q, ρ0, h0⟩ := X
  intro ρ H locs ls hI a1 a2 hL
  exact lv_if_ne E.1 E.2.1 d ht (fun _ => kk ρ H locs ls hI a1 (z_ok_tl a2) hL) (fun z => absurd z hc)
theorem z_if_neF {X : PX} {cc : ByteArray} {own nm : String} {nL : Nat} {rm : Room} {ret : Option FieldType} (E : z_E X cc own nm nL rm ret) {k n pc : Nat} {lv : List (Nat × Value)} {st : List Value} {h : PH} {x : Int32} {off : Int} {tgt : Nat} (d : decode cc pc = .ok (.ifCond .ne off, 3)) (ht : (pc : Int) + off = (tgt : Int)) (hc : x = 0) (kk : WP X nL k n (pc + 3) lv st h) : WP X nL k n pc lv (.int x :: st) h := by
  obtain ⟨⟨p, l, e, R, s, m, args, below, meth, c⟩, D, cT, A, Q, ρ0, h0⟩ := X
  intro ρ H locs ls hI a1 a2 hL
  exact lv_if_ne E.1 E.2.1 d ht (fun z => absurd hc z) (fun _ => kk ρ H locs ls hI a1 (z_ok_tl a2) hL)
theorem z_icmp_neT {X : PX} {cc : ByteArray} {own nm : String} {nL : Nat} {rm : Room} {ret : Option FieldType} (E : z_E X cc own nm nL rm ret) {k n pc : Nat} {lv : List (Nat × Value)} {st : List Value} {h : PH} {x y : Int32} {off : Int} {tgt : Nat} (d : decode cc pc = .ok (.if_icmp .ne off, 3)) (ht : (pc : Int) + off = (tgt : Int)) (hc : ¬ x = y) (kk : WP X nL k n tgt lv st h) : WP X nL k n pc lv (.int y :: .int x :: st) h := by
  obtain ⟨⟨p, l, e, R, s, m, args, below, meth, c⟩, D, cT, A, Q, ρ0, h0⟩ := X
  intro ρ H locs ls hI a1 a2 hL
  exact lv_icmp_ne E.1 E.2.1 d ht (fun _ => kk ρ H locs ls hI a1 (z_ok_tl (z_ok_tl a2)) hL) (fun z => absurd z hc)
theorem z_icmp_neF {X : PX} {cc : ByteArray} {own nm : String} {nL : Nat} {rm : Room} {ret : Option FieldType} (E : z_E X cc own nm nL rm ret) {k n pc : Nat} {lv : List (Nat × Value)} {st : List Value} {h : PH} {x y : Int32} {off : Int} {tgt : Nat} (d : decode cc pc = .ok (.if_icmp .ne off, 3)) (ht : (pc : Int) + off = (tgt : Int)) (hc : x = y) (kk : WP X nL k n (pc + 3) lv st h) : WP X nL k n pc lv (.int y :: .int x :: st) h := by
  obtain ⟨⟨p, l, e, R, s, m, args, below, meth, c⟩, D, cT, A, Q, ρ0, h0⟩ := X
  intro ρ H locs ls hI a1 a2 hL
  exact lv_icmp_ne E.1 E.2.1 d ht (fun z => absurd hc z) (fun _ => kk ρ H locs ls hI a1 (z_ok_tl (z_ok_tl a2)) hL)
theorem z_if_ltT {X : PX} {cc : ByteArray} {own nm : String} {nL : Nat} {rm : Room} {ret : Option FieldType} (E : z_E X cc own nm nL rm ret) {k n pc : Nat} {lv : List (Nat × Value)} {st : List Value} {h : PH} {x : Int32} {off : Int} {tgt : Nat} (d : decode cc pc = .ok (.ifCond .lt off, 3)) (ht : (pc : Int) + off = (tgt : Int)) (hc : x < 0) (kk : WP X nL k n tgt lv st h) : WP X nL k n pc lv (.int x :: st) h := by
  obtain ⟨⟨p, l, e, R, s, m, args, below, meth, c⟩, D, cT, A, Q, ρ0, h0⟩ := X
  intro ρ H locs ls hI a1 a2 hL
  exact lv_if_lt E.1 E.2.1 d ht (fun _ => kk ρ H locs ls hI a1 (z_ok_tl a2) hL) (fun z => absurd hc z)
theorem z_if_ltF {X : PX} {cc : ByteArray} {own nm : String} {nL : Nat} {rm : Room} {ret : Option FieldType} (E : z_E X cc own nm nL rm ret) {k n pc : Nat} {lv : List (Nat × Value)} {st : List Value} {h : PH} {x : Int32} {off : Int} {tgt : Nat} (d : decode cc pc = .ok (.ifCond .lt off, 3)) (ht : (pc : Int) + off = (tgt : Int)) (hc : ¬ x < 0) (kk : WP X nL k n (pc + 3) lv st h) : WP X nL k n pc lv (.int x :: st) h := by
  obtain ⟨⟨p, l, e, R, s, m, args, below, meth, c⟩, D, cT, A, Q, ρ0, h0⟩ := X
  intro ρ H locs ls hI a1 a2 hL
  exact lv_if_lt E.1 E.2.1 d ht (fun z => absurd z hc) (fun _ => kk ρ H locs ls hI a1 (z_ok_tl a2) hL)
theorem z_icmp_ltT {X : PX} {cc : ByteArray} {own nm : String} {nL : Nat} {rm : Room} {ret : Option FieldType} (E : z_E X cc own nm nL rm ret) {k n pc : Nat} {lv : List (Nat × Value)} {st : List Value} {h : PH} {x y : Int32} {off : Int} {tgt : Nat} (d : decode cc pc = .ok (.if_icmp .lt off, 3)) (ht : (pc : Int) + off = (tgt : Int)) (hc : x < y) (kk : WP X nL k n tgt lv st h) : WP X nL k n pc lv (.int y :: .int x :: st) h := by
  obtain ⟨⟨p, l, e, R, s, m, args, below, meth, c⟩, D, cT, A, Q, ρ0, h0⟩ := X
  intro ρ H locs ls hI a1 a2 hL
  exact lv_icmp_lt E.1 E.2.1 d ht (fun _ => kk ρ H locs ls hI a1 (z_ok_tl (z_ok_tl a2)) hL) (fun z => absurd hc z)
theorem z_icmp_ltF {X : PX} {cc : ByteArray} {own nm : String} {nL : Nat} {rm : Room} {ret : Option FieldType} (E : z_E X cc own nm nL rm ret) {k n pc : Nat} {lv : List (Nat × Value)} {st : List Value} {h : PH} {x y : Int32} {off : Int} {tgt : Nat} (d : decode cc pc = .ok (.if_icmp .lt off, 3)) (ht : (pc : Int) + off = (tgt : Int)) (hc : ¬ x < y) (kk : WP X nL k n (pc + 3) lv st h) : WP X nL k n pc lv (.int y :: .int x :: st) h := by
  obtain ⟨⟨p, l, e, R, s, m, args, below, meth, c⟩, D, cT, A, Q, ρ0, h0⟩ := X
  intro ρ H locs ls hI a1 a2 hL
  exact lv_icmp_lt E.1 E.2.1 d ht (fun z => absurd z hc) (fun _ => kk ρ H locs ls hI a1 (z_ok_tl (z_ok_tl a2)) hL)
theorem z_if_geT {X : PX} {cc : ByteArray} {own nm : String} {nL : Nat} {rm : Room} {ret : Option FieldType} (E : z_E X cc own nm nL rm ret) {k n pc : Nat} {lv : List (Nat × Value)} {st : List Value} {h : PH} {x : Int32} {off : Int} {tgt : Nat} (d : decode cc pc = .ok (.ifCond .ge off, 3)) (ht : (pc : Int) + off = (tgt : Int)) (hc : 0 ≤ x) (kk : WP X nL k n tgt lv st h) : WP X nL k n pc lv (.int x :: st) h := by
  obtain ⟨⟨p, l, e, R, s, m, args, below, meth, c⟩, D, cT, A, Q, ρ0, h0⟩ := X
  intro ρ H locs ls hI a1 a2 hL
  exact lv_if_ge E.1 E.2.1 d ht (fun _ => kk ρ H locs ls hI a1 (z_ok_tl a2) hL) (fun z => absurd hc z)
theorem z_if_geF {X : PX} {cc : ByteArray} {own nm : String} {nL : Nat} {rm : Room} {ret : Option FieldType} (E : z_E X cc own nm nL rm ret) {k n pc : Nat} {lv : List (Nat × Value)} {st : List Value} {h : PH} {x : Int32} {off : Int} {tgt : Nat} (d : decode cc pc = .ok (.ifCond .ge off, 3)) (ht : (pc : Int) + off = (tgt : Int)) (hc : ¬ 0 ≤ x) (kk : WP X nL k n (pc + 3) lv st h) : WP X nL k n pc lv (.int x :: st) h := by
  obtain ⟨⟨p, l, e, R, s, m, args, below, meth, c⟩, D, cT, A, Q, ρ0, h0⟩ := X
  intro ρ H locs ls hI a1 a2 hL
  exact lv_if_ge E.1 E.2.1 d ht (fun z => absurd z hc) (fun _ => kk ρ H locs ls hI a1 (z_ok_tl a2) hL)
theorem z_icmp_geT {X : PX} {cc : ByteArray} {own nm : String} {nL : Nat} {rm : Room} {ret : Option FieldType} (E : z_E X cc own nm nL rm ret) {k n pc : Nat} {lv : List (Nat × Value)} {st : List Value} {h : PH} {x y : Int32} {off : Int} {tgt : Nat} (d : decode cc pc = .ok (.if_icmp .ge off, 3)) (ht : (pc : Int) + off = (tgt : Int)) (hc : y ≤ x) (kk : WP X nL k n tgt lv st h) : WP X nL k n pc lv (.int y :: .int x :: st) h := by
  obtain ⟨⟨p, l, e, R, s, m, args, below, meth, c⟩, D, cT, A, Q, ρ0, h0⟩ := X
  intro ρ H locs ls hI a1 a2 hL
  exact lv_icmp_ge E.1 E.2.1 d ht (fun _ => kk ρ H locs ls hI a1 (z_ok_tl (z_ok_tl a2)) hL) (fun z => absurd hc z)
theorem z_icmp_geF {X : PX} {cc : ByteArray} {own nm : String} {nL : Nat} {rm : Room} {ret : Option FieldType} (E : z_E X cc own nm nL rm ret) {k n pc : Nat} {lv : List (Nat × Value)} {st : List Value} {h : PH} {x y : Int32} {off : Int} {tgt : Nat} (d : decode cc pc = .ok (.if_icmp .ge off, 3)) (ht : (pc : Int) + off = (tgt : Int)) (hc : ¬ y ≤ x) (kk : WP X nL k n (pc + 3) lv st h) : WP X nL k n pc lv (.int y :: .int x :: st) h := by
  obtain ⟨⟨p, l, e, R, s, m, args, below, meth, c⟩, D, cT, A, Q, ρ0, h0⟩ := X
  intro ρ H locs ls hI a1 a2 hL
  exact lv_icmp_ge E.1 E.2.1 d ht (fun z => absurd z hc) (fun _ => kk ρ H locs ls hI a1 (z_ok_tl (z_ok_tl a2)) hL)
theorem z_if_gtT {X : PX} {cc : ByteArray} {own nm : String} {nL : Nat} {rm : Room} {ret : Option FieldType} (E : z_E X cc own nm nL rm ret) {k n pc : Nat} {lv : List (Nat × Value)} {st : List Value} {h : PH} {x : Int32} {off : Int} {tgt : Nat} (d : decode cc pc = .ok (.ifCond .gt off, 3)) (ht : (pc : Int) + off = (tgt : Int)) (hc : 0 < x) (kk : WP X nL k n tgt lv st h) : WP X nL k n pc lv (.int x :: st) h := by
  obtain ⟨⟨p, l, e, R, s, m, args, below, meth, c⟩, D, cT, A, Q, ρ0, h0⟩ := X
  intro ρ H locs ls hI a1 a2 hL
  exact lv_if_gt E.1 E.2.1 d ht (fun _ => kk ρ H locs ls hI a1 (z_ok_tl a2) hL) (fun z => absurd hc z)
theorem z_if_gtF {X : PX} {cc : ByteArray} {own nm : String} {nL : Nat} {rm : Room} {ret : Option FieldType} (E : z_E X cc own nm nL rm ret) {k n pc : Nat} {lv : List (Nat × Value)} {st : List Value} {h : PH} {x : Int32} {off : Int} {tgt : Nat} (d : decode cc pc = .ok (.ifCond .gt off, 3)) (ht : (pc : Int) + off = (tgt : Int)) (hc : ¬ 0 < x) (kk : WP X nL k n (pc + 3) lv st h) : WP X nL k n pc lv (.int x :: st) h := by
  obtain ⟨⟨p, l, e, R, s, m, args, below, meth, c⟩, D, cT, A, Q, ρ0, h0⟩ := X
  intro ρ H locs ls hI a1 a2 hL
  exact lv_if_gt E.1 E.2.1 d ht (fun z => absurd z hc) (fun _ => kk ρ H locs ls hI a1 (z_ok_tl a2) hL)
theorem z_icmp_gtT {X : PX} {cc : ByteArray} {own nm : String} {nL : Nat} {rm : Room} {ret : Option FieldType} (E : z_E X cc own nm nL rm ret) {k n pc : Nat} {lv : List (Nat × Value)} {st : List Value} {h : PH} {x y : Int32} {off : Int} {tgt : Nat} (d : decode cc pc = .ok (.if_icmp .gt off, 3)) (ht : (pc : Int) + off = (tgt : Int)) (hc : y < x) (kk : WP X nL k n tgt lv st h) : WP X nL k n pc lv (.int y :: .int x :: st) h := by
  obtain ⟨⟨p, l, e, R, s, m, args, below, meth, c⟩, D, cT, A, Q, ρ0, h0⟩ := X
  intro ρ H locs ls hI a1 a2 hL
  exact lv_icmp_gt E.1 E.2.1 d ht (fun _ => kk ρ H locs ls hI a1 (z_ok_tl (z_ok_tl a2)) hL) (fun z => absurd hc z)
theorem z_icmp_gtF {X : PX} {cc : ByteArray} {own nm : String} {nL : Nat} {rm : Room} {ret : Option FieldType} (E : z_E X cc own nm nL rm ret) {k n pc : Nat} {lv : List (Nat × Value)} {st : List Value} {h : PH} {x y : Int32} {off : Int} {tgt : Nat} (d : decode cc pc = .ok (.if_icmp .gt off, 3)) (ht : (pc : Int) + off = (tgt : Int)) (hc : ¬ y < x) (kk : WP X nL k n (pc + 3) lv st h) : WP X nL k n pc lv (.int y :: .int x :: st) h := by
  obtain ⟨⟨p, l, e, R, s, m, args, below, meth, c⟩, D, cT, A, Q, ρ0, h0⟩ := X
  intro ρ H locs ls hI a1 a2 hL
  exact lv_icmp_gt E.1 E.2.1 d ht (fun z => absurd z hc) (fun _ => kk ρ H locs ls hI a1 (z_ok_tl (z_ok_tl a2)) hL)
theorem z_if_leT {X : PX} {cc : ByteArray} {own nm : String} {nL : Nat} {rm : Room} {ret : Option FieldType} (E : z_E X cc own nm nL rm ret) {k n pc : Nat} {lv : List (Nat × Value)} {st : List Value} {h : PH} {x : Int32} {off : Int} {tgt : Nat} (d : decode cc pc = .ok (.ifCond .le off, 3)) (ht : (pc : Int) + off = (tgt : Int)) (hc : x ≤ 0) (kk : WP X nL k n tgt lv st h) : WP X nL k n pc lv (.int x :: st) h := by
  obtain ⟨⟨p, l, e, R, s, m, args, below, meth, c⟩, D, cT, A, Q, ρ0, h0⟩ := X
  intro ρ H locs ls hI a1 a2 hL
  exact lv_if_le E.1 E.2.1 d ht (fun _ => kk ρ H locs ls hI a1 (z_ok_tl a2) hL) (fun z => absurd hc z)
theorem z_if_leF {X : PX} {cc : ByteArray} {own nm : String} {nL : Nat} {rm : Room} {ret : Option FieldType} (E : z_E X cc own nm nL rm ret) {k n pc : Nat} {lv : List (Nat × Value)} {st : List Value} {h : PH} {x : Int32} {off : Int} {tgt : Nat} (d : decode cc pc = .ok (.ifCond .le off, 3)) (ht : (pc : Int) + off = (tgt : Int)) (hc : ¬ x ≤ 0) (kk : WP X nL k n (pc + 3) lv st h) : WP X nL k n pc lv (.int x :: st) h := by
  obtain ⟨⟨p, l, e, R, s, m, args, below, meth, c⟩, D, cT, A, Q, ρ0, h0⟩ := X
  intro ρ H locs ls hI a1 a2 hL
  exact lv_if_le E.1 E.2.1 d ht (fun z => absurd z hc) (fun _ => kk ρ H locs ls hI a1 (z_ok_tl a2) hL)
theorem z_icmp_leT {X : PX} {cc : ByteArray} {own nm : String} {nL : Nat} {rm : Room} {ret : Option FieldType} (E : z_E X cc own nm nL rm ret) {k n pc : Nat} {lv : List (Nat × Value)} {st : List Value} {h : PH} {x y : Int32} {off : Int} {tgt : Nat} (d : decode cc pc = .ok (.if_icmp .le off, 3)) (ht : (pc : Int) + off = (tgt : Int)) (hc : x ≤ y) (kk : WP X nL k n tgt lv st h) : WP X nL k n pc lv (.int y :: .int x :: st) h := by
  obtain ⟨⟨p, l, e, R, s, m, args, below, meth, c⟩, D, cT, A, Q, ρ0, h0⟩ := X
  intro ρ H locs ls hI a1 a2 hL
  exact lv_icmp_le E.1 E.2.1 d ht (fun _ => kk ρ H locs ls hI a1 (z_ok_tl (z_ok_tl a2)) hL) (fun z => absurd hc z)
theorem z_icmp_leF {X : PX} {cc : ByteArray} {own nm : String} {nL : Nat} {rm : Room} {ret : Option FieldType} (E : z_E X cc own nm nL rm ret) {k n pc : Nat} {lv : List (Nat × Value)} {st : List Value} {h : PH} {x y : Int32} {off : Int} {tgt : Nat} (d : decode cc pc = .ok (.if_icmp .le off, 3)) (ht : (pc : Int) + off = (tgt : Int)) (hc : ¬ x ≤ y) (kk : WP X nL k n (pc + 3) lv st h) : WP X nL k n pc lv (.int y :: .int x :: st) h := by
  obtain ⟨⟨p, l, e, R, s, m, args, below, meth, c⟩, D, cT, A, Q, ρ0, h0⟩ := X
  intro ρ H locs ls hI a1 a2 hL
  exact lv_icmp_le E.1 E.2.1 d ht (fun z => absurd z hc) (fun _ => kk ρ H locs ls hI a1 (z_ok_tl (z_ok_tl a2)) hL)
theorem z_goto {X : PX} {cc : ByteArray} {own nm : String} {nL : Nat} {rm : Room} {ret : Option FieldType} (E : z_E X cc own nm nL rm ret) {k n pc : Nat} {lv : List (Nat × Value)} {st : List Value} {h : PH} {off : Int} {tgt : Nat} (d : decode cc pc = .ok (.goto off, 3)) (ht : (pc : Int) + off = (tgt : Int)) (kk : WP X nL k n tgt lv st h) : WP X nL k n pc lv st h := by
  obtain ⟨⟨p, l, e, R, s, m, args, below, meth, c⟩, D, cT, A, Q, ρ0, h0⟩ := X
  intro ρ H locs ls hI a1 a2 hL
  exact lv_goto E.1 E.2.1 d ht (kk ρ H locs ls hI a1 a2 hL)
theorem z_tableIn {X : PX} {cc : ByteArray} {own nm : String} {nL : Nat} {rm : Room} {ret : Option FieldType} (E : z_E X cc own nm nL rm ret) {k n pc : Nat} {lv : List (Nat × Value)} {st : List Value} {h : PH} {dflt lo hi : Int} {offs : Array Int} {len : Nat} {x : Int32} {off : Int} {tgt : Nat} (d : decode cc pc = .ok (.tableswitch dflt lo hi offs, len)) (h1 : ¬ x.toInt < lo) (h2 : ¬ hi < x.toInt) (ho : offs[(x.toInt - lo).toNat]? = some off) (ht : (pc : Int) + off = (tgt : Int)) (kk : WP X nL k n tgt lv st h) : WP X nL k n pc lv (.int x :: st) h := by
  obtain ⟨⟨p, l, e, R, s, m, args, below, meth, c⟩, D, cT, A, Q, ρ0, h0⟩ := X
  intro ρ H locs ls hI a1 a2 hL
  exact lv_tableIn E.1 E.2.1 d h1 h2 ho ht (kk ρ H locs ls hI a1 (z_ok_tl a2) hL)
theorem z_tableOut {X : PX} {cc : ByteArray} {own nm : String} {nL : Nat} {rm : Room} {ret : Option FieldType} (E : z_E X cc own nm nL rm ret) {k n pc : Nat} {lv : List (Nat × Value)} {st : List Value} {h : PH} {dflt lo hi : Int} {offs : Array Int} {len : Nat} {x : Int32} {tgt : Nat} (d : decode cc pc = .ok (.tableswitch dflt lo hi offs, len)) (hx : x.toInt < lo ∨ hi < x.toInt) (ht : (pc : Int) + dflt = (tgt : Int)) (kk : WP X nL k n tgt lv st h) : WP X nL k n pc lv (.int x :: st) h := by
  obtain ⟨⟨p, l, e, R, s, m, args, below, meth, c⟩, D, cT, A, Q, ρ0, h0⟩ := X
  intro ρ H locs ls hI a1 a2 hL
  exact lv_tableOut E.1 E.2.1 d hx ht (kk ρ H locs ls hI a1 (z_ok_tl a2) hL)
theorem z_ifnullT {X : PX} {cc : ByteArray} {own nm : String} {nL : Nat} {rm : Room} {ret : Option FieldType} (E : z_E X cc own nm nL rm ret) {k n pc : Nat} {lv : List (Nat × Value)} {st : List Value} {h : PH} {off : Int} {tgt : Nat} (d : decode cc pc = .ok (.ifnull off, 3)) (ht : (pc : Int) + off = (tgt : Int)) (kk : WP X nL k n tgt lv st h) : WP X nL k n pc lv (.null :: st) h := by
  obtain ⟨⟨p, l, e, R, s, m, args, below, meth, c⟩, D, cT, A, Q, ρ0, h0⟩ := X
  intro ρ H locs ls hI a1 a2 hL
  exact lv_ifnullN E.1 E.2.1 d ht (kk ρ H locs ls hI a1 (z_ok_tl a2) hL)
theorem z_ifnonnullT {X : PX} {cc : ByteArray} {own nm : String} {nL : Nat} {rm : Room} {ret : Option FieldType} (E : z_E X cc own nm nL rm ret) {k n pc : Nat} {lv : List (Nat × Value)} {st : List Value} {h : PH} {x : Nat} {off : Int} {tgt : Nat} (d : decode cc pc = .ok (.ifnonnull off, 3)) (ht : (pc : Int) + off = (tgt : Int)) (kk : WP X nL k n tgt lv st h) : WP X nL k n pc lv (.ref x :: st) h := by
  obtain ⟨⟨p, l, e, R, s, m, args, below, meth, c⟩, D, cT, A, Q, ρ0, h0⟩ := X
  intro ρ H locs ls hI a1 a2 hL
  exact lv_ifnonnull E.1 E.2.1 d ht (kk ρ H locs ls hI a1 (z_ok_tl a2) hL)
theorem z_ifnullF {X : PX} {cc : ByteArray} {own nm : String} {nL : Nat} {rm : Room} {ret : Option FieldType} (E : z_E X cc own nm nL rm ret) {k n pc : Nat} {lv : List (Nat × Value)} {st : List Value} {h : PH} {x : Nat} {off : Int} (d : decode cc pc = .ok (.ifnull off, 3)) (kk : WP X nL k n (pc + 3) lv st h) : WP X nL k n pc lv (.ref x :: st) h := by
  obtain ⟨⟨p, l, e, R, s, m, args, below, meth, c⟩, D, cT, A, Q, ρ0, h0⟩ := X
  intro ρ H locs ls hI a1 a2 hL
  exact lv_ifnull E.1 E.2.1 d (kk ρ H locs ls hI a1 (z_ok_tl a2) hL)
theorem z_ifnonnullF {X : PX} {cc : ByteArray} {own nm : String} {nL : Nat} {rm : Room} {ret : Option FieldType} (E : z_E X cc own nm nL rm ret) {k n pc : Nat} {lv : List (Nat × Value)} {st : List Value} {h : PH} {off : Int} (d : decode cc pc = .ok (.ifnonnull off, 3)) (kk : WP X nL k n (pc + 3) lv st h) : WP X nL k n pc lv (.null :: st) h := by
  obtain ⟨⟨p, l, e, R, s, m, args, below, meth, c⟩, D, cT, A, Q, ρ0, h0⟩ := X
  intro ρ H locs ls hI a1 a2 hL
  exact lv_ifnonnullN E.1 E.2.1 d (kk ρ H locs ls hI a1 (z_ok_tl a2) hL)
theorem z_ldcI {X : PX} {cc : ByteArray} {own nm : String} {nL : Nat} {rm : Room} {ret : Option FieldType} (E : z_E X cc own nm nL rm ret) {k n pc : Nat} {lv : List (Nat × Value)} {st : List Value} {h : PH} {ix : Nat} {v : Int32} (d : decode cc pc = .ok (.ldc ix, 2)) (hw : Cond.constant own ix v ∈ z_ws) (kk : WP X nL k n (pc + 2) lv (.int v :: st) h) : WP X nL k n pc lv st h := by
  obtain ⟨⟨p, l, e, R, s, m, args, below, meth, c⟩, D, cT, A, Q, ρ0, h0⟩ := X
  intro ρ H locs ls hI a1 a2 hL
  exact lv_ldc E.1 E.2.1 E.2.2.2.1 (E.2.2.2.2.1 _ hw) d (kk ρ H locs ls hI a1 (z_ok_cons trivial a2) hL)
theorem z_ldcwI {X : PX} {cc : ByteArray} {own nm : String} {nL : Nat} {rm : Room} {ret : Option FieldType} (E : z_E X cc own nm nL rm ret) {k n pc : Nat} {lv : List (Nat × Value)} {st : List Value} {h : PH} {ix : Nat} {v : Int32} (d : decode cc pc = .ok (.ldc_w ix, 3)) (hw : Cond.constant own ix v ∈ z_ws) (kk : WP X nL k n (pc + 3) lv (.int v :: st) h) : WP X nL k n pc lv st h := by
  obtain ⟨⟨p, l, e, R, s, m, args, below, meth, c⟩, D, cT, A, Q, ρ0, h0⟩ := X
  intro ρ H locs ls hI a1 a2 hL
  exact lv_ldcw E.1 E.2.1 E.2.2.2.1 (E.2.2.2.2.1 _ hw) d (kk ρ H locs ls hI a1 (z_ok_cons trivial a2) hL)
theorem z_fconst0 {X : PX} {cc : ByteArray} {own nm : String} {nL : Nat} {rm : Room} {ret : Option FieldType} (E : z_E X cc own nm nL rm ret) {k n pc : Nat} {lv : List (Nat × Value)} {st : List Value} {h : PH}  (d : decode cc pc = .ok (.fconst 0, 1))  (kk : WP X nL k n (pc + 1) lv (.float FP.fconst0 :: st) h) : WP X nL k n pc lv (st) h := by
  obtain ⟨⟨p, l, e, R, s, m, args, below, meth, c⟩, D, cT, A, Q, ρ0, h0⟩ := X
  intro ρ H locs ls hI a1 a2 hL
  exact lv_fconst0 E.1 E.2.1 d  (kk ρ H locs ls hI a1 (z_ok_cons trivial (a2)) hL)
theorem z_dconst0 {X : PX} {cc : ByteArray} {own nm : String} {nL : Nat} {rm : Room} {ret : Option FieldType} (E : z_E X cc own nm nL rm ret) {k n pc : Nat} {lv : List (Nat × Value)} {st : List Value} {h : PH}  (d : decode cc pc = .ok (.dconst 0, 1))  (kk : WP X nL k n (pc + 1) lv (.double FP.dconst0 :: st) h) : WP X nL k n pc lv (st) h := by
  obtain ⟨⟨p, l, e, R, s, m, args, below, meth, c⟩, D, cT, A, Q, ρ0, h0⟩ := X
  intro ρ H locs ls hI a1 a2 hL
  exact lv_dconst0 E.1 E.2.1 d  (kk ρ H locs ls hI a1 (z_ok_cons trivial (a2)) hL)
