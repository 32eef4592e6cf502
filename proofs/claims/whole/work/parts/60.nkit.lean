/-! The judgement with cells and slots: for what makes objects, and for the law. -/
abbrev nT : Type := Nat → Nat → va_W → Nat → List (Nat × Value) → List Value → Prop
abbrev nZ : Type := State → Method → Array Value → List Frame → (State → Prop) → Prop
def nJ (l : Launch) (cc : ByteArray) (nL : Nat) (D : va_G) (tys : List (ClassId × FieldType)) (own : String) (R : Room) (A : Nat → Prop) (Z : nZ) (J : nT) : Prop :=
  ∃ (p : Program) (e : Env) (s : State) (m : MethodId) (args : Array Value) (below : List Frame) (meth : Method) (c : Code) (Q : State → Prop), p.tables.exec = Jvm.exec ∧ c.code = cc ∧ c.maxLocals = nL ∧ s.vm.findClass own = some m.cls ∧ jK D tys s ∧ (∀ q : Nat, s.heap.size ≤ q → A q) ∧ Z s meth args below Q ∧
    J = fun ck cs ws pc lv st => ∀ (H : Heap) (locs : List Loc) (ls : Array Slot), va_P D vwCl ws H → va_D A ws → va_S A s.heap H locs → lv_has ls nL lv → W p l e R s m args below meth c H locs ck cs Q (F0 m pc ls st)
section NR
variable {l : Launch} {cc : ByteArray} {nL : Nat} {D : va_G} {tys : List (ClassId × FieldType)} {own : String} {R : Room} {A : Nat → Prop} {Z : nZ} {J : nT} {ck cs : Nat} {ws : va_W} {pc : Nat} {lv : List (Nat × Value)} {st : List Value}
theorem nn_iconst (hJ : nJ l cc nL D tys own R A Z J) {n : Int} {v : Int32} (hd : decode cc pc = .ok (.iconst n, 1)) (hv : Int32.ofInt n = v) (kk : J ck cs ws (pc + 1) lv (.int v :: st)) : J ck cs ws pc lv (st) := by
  obtain ⟨p, e, s, m, args, below, meth, c, Q, hx, hb, hml, ho, hK, hA, hZ, rfl⟩ := hJ
  intro H locs ls hP hD hS hl
  exact lv_iconst hx hb hd hv (kk H locs ls hP hD hS hl)
theorem nn_bipush (hJ : nJ l cc nL D tys own R A Z J) {n : Int} {v : Int32} (hd : decode cc pc = .ok (.bipush n, 2)) (hv : (Int8.ofInt n).toInt32 = v) (kk : J ck cs ws (pc + 2) lv (.int v :: st)) : J ck cs ws pc lv (st) := by
  obtain ⟨p, e, s, m, args, below, meth, c, Q, hx, hb, hml, ho, hK, hA, hZ, rfl⟩ := hJ
  intro H locs ls hP hD hS hl
  exact lv_bipush hx hb hd hv (kk H locs ls hP hD hS hl)
theorem nn_sipush (hJ : nJ l cc nL D tys own R A Z J) {n : Int} {v : Int32} (hd : decode cc pc = .ok (.sipush n, 3)) (hv : (Int16.ofInt n).toInt32 = v) (kk : J ck cs ws (pc + 3) lv (.int v :: st)) : J ck cs ws pc lv (st) := by
  obtain ⟨p, e, s, m, args, below, meth, c, Q, hx, hb, hml, ho, hK, hA, hZ, rfl⟩ := hJ
  intro H locs ls hP hD hS hl
  exact lv_sipush hx hb hd hv (kk H locs ls hP hD hS hl)
theorem nn_lconst (hJ : nJ l cc nL D tys own R A Z J) {n : Fin 2} {v : Int64} (hd : decode cc pc = .ok (.lconst n, 1)) (hv : Int64.ofNat (n : Nat) = v) (kk : J ck cs ws (pc + 1) lv (.long v :: st)) : J ck cs ws pc lv (st) := by
  obtain ⟨p, e, s, m, args, below, meth, c, Q, hx, hb, hml, ho, hK, hA, hZ, rfl⟩ := hJ
  intro H locs ls hP hD hS hl
  exact lv_lconst hx hb hd hv (kk H locs ls hP hD hS hl)
theorem nn_ldc (hJ : nJ l cc nL D tys own R A Z J) {index : Nat} {v : Int32} (hd : decode cc pc = .ok (.ldc index, 2)) (hw : Cond.constant own index v ∈ lw_tbl) (kk : J ck cs ws (pc + 2) lv (.int v :: st)) : J ck cs ws pc lv (st) := by
  obtain ⟨p, e, s, m, args, below, meth, c, Q, hx, hb, hml, ho, hK, hA, hZ, rfl⟩ := hJ
  intro H locs ls hP hD hS hl
  exact lv_ldc hx hb ho (hK.2.1 _ hw rfl args) hd (kk H locs ls hP hD hS hl)
theorem nn_ldc2 (hJ : nJ l cc nL D tys own R A Z J) {index : Nat} {v : Int64} (hd : decode cc pc = .ok (.ldc2_w index, 3)) (hw : Cond.constantLong own index v ∈ lw_tbl) (kk : J ck cs ws (pc + 3) lv (.long v :: st)) : J ck cs ws pc lv (st) := by
  obtain ⟨p, e, s, m, args, below, meth, c, Q, hx, hb, hml, ho, hK, hA, hZ, rfl⟩ := hJ
  intro H locs ls hP hD hS hl
  exact lv_ldc2 hx hb ho (hK.2.1 _ hw rfl args) hd (kk H locs ls hP hD hS hl)
theorem nn_iload_n (hJ : nJ l cc nL D tys own R A Z J) {i : Nat} {k : Fin 4} {x : Int32} (hd : decode cc pc = .ok (.iload_n k, 1)) (j : Nat) (hj : lv[j]? = some (i, .int x)) (hi : (k : Nat) = i) (kk : J ck cs ws (pc + 1) lv (.int x :: st)) : J ck cs ws pc lv (st) := by
  obtain ⟨p, e, s, m, args, below, meth, c, Q, hx, hb, hml, ho, hK, hA, hZ, rfl⟩ := hJ
  intro H locs ls hP hD hS hl
  exact lv_iload_n hx hb hd hi (lv_at hl j hj) (kk H locs ls hP hD hS hl)
theorem nn_iload (hJ : nJ l cc nL D tys own R A Z J) {i : Nat} {x : Int32} (hd : decode cc pc = .ok (.iload i, 2)) (j : Nat) (hj : lv[j]? = some (i, .int x)) (kk : J ck cs ws (pc + 2) lv (.int x :: st)) : J ck cs ws pc lv (st) := by
  obtain ⟨p, e, s, m, args, below, meth, c, Q, hx, hb, hml, ho, hK, hA, hZ, rfl⟩ := hJ
  intro H locs ls hP hD hS hl
  exact lv_iload hx hb hd (lv_at hl j hj) (kk H locs ls hP hD hS hl)
theorem nn_lload_n (hJ : nJ l cc nL D tys own R A Z J) {i : Nat} {k : Fin 4} {x : Int64} (hd : decode cc pc = .ok (.lload_n k, 1)) (j : Nat) (hj : lv[j]? = some (i, .long x)) (hi : (k : Nat) = i) (kk : J ck cs ws (pc + 1) lv (.long x :: st)) : J ck cs ws pc lv (st) := by
  obtain ⟨p, e, s, m, args, below, meth, c, Q, hx, hb, hml, ho, hK, hA, hZ, rfl⟩ := hJ
  intro H locs ls hP hD hS hl
  exact lv_lload_n hx hb hd hi (lv_at hl j hj) (kk H locs ls hP hD hS hl)
theorem nn_lload (hJ : nJ l cc nL D tys own R A Z J) {i : Nat} {x : Int64} (hd : decode cc pc = .ok (.lload i, 2)) (j : Nat) (hj : lv[j]? = some (i, .long x)) (kk : J ck cs ws (pc + 2) lv (.long x :: st)) : J ck cs ws pc lv (st) := by
  obtain ⟨p, e, s, m, args, below, meth, c, Q, hx, hb, hml, ho, hK, hA, hZ, rfl⟩ := hJ
  intro H locs ls hP hD hS hl
  exact lv_lload hx hb hd (lv_at hl j hj) (kk H locs ls hP hD hS hl)
theorem nn_aload_n (hJ : nJ l cc nL D tys own R A Z J) {i : Nat} {k : Fin 4} {x : Nat} (hd : decode cc pc = .ok (.aload_n k, 1)) (j : Nat) (hj : lv[j]? = some (i, .ref x)) (hi : (k : Nat) = i) (kk : J ck cs ws (pc + 1) lv (.ref x :: st)) : J ck cs ws pc lv (st) := by
  obtain ⟨p, e, s, m, args, below, meth, c, Q, hx, hb, hml, ho, hK, hA, hZ, rfl⟩ := hJ
  intro H locs ls hP hD hS hl
  exact lv_aload_n hx hb hd hi (lv_at hl j hj) (kk H locs ls hP hD hS hl)
theorem nn_aload (hJ : nJ l cc nL D tys own R A Z J) {i : Nat} {x : Nat} (hd : decode cc pc = .ok (.aload i, 2)) (j : Nat) (hj : lv[j]? = some (i, .ref x)) (kk : J ck cs ws (pc + 2) lv (.ref x :: st)) : J ck cs ws pc lv (st) := by
  obtain ⟨p, e, s, m, args, below, meth, c, Q, hx, hb, hml, ho, hK, hA, hZ, rfl⟩ := hJ
  intro H locs ls hP hD hS hl
  exact lv_aload hx hb hd (lv_at hl j hj) (kk H locs ls hP hD hS hl)
theorem nn_istore_n (hJ : nJ l cc nL D tys own R A Z J) {i : Nat} {k : Fin 4} {x : Int32} {lv' : List (Nat × Value)} (hd : decode cc pc = .ok (.istore_n k, 1)) (hi : (k : Nat) = i) (hn : i < nL) (hl9 : (i, Value.int x) :: lv.filter (fun q => !(q.1 == i) && !(q.1 + 1 == i && q.2.category == 2)) = lv') (kk : J ck cs ws (pc + 1) lv' st) : J ck cs ws pc lv (.int x :: st) := by
  obtain ⟨p, e, s, m, args, below, meth, c, Q, hx, hb, hml, ho, hK, hA, hZ, rfl⟩ := hJ
  intro H locs ls hP hD hS hl
  exact lv_istore_n hx hb hd hi hl hn hl9 (fun ls hl => kk H locs ls hP hD hS hl)
theorem nn_istore (hJ : nJ l cc nL D tys own R A Z J) {i : Nat}  {x : Int32} {lv' : List (Nat × Value)} (hd : decode cc pc = .ok (.istore i, 2))  (hn : i < nL) (hl9 : (i, Value.int x) :: lv.filter (fun q => !(q.1 == i) && !(q.1 + 1 == i && q.2.category == 2)) = lv') (kk : J ck cs ws (pc + 2) lv' st) : J ck cs ws pc lv (.int x :: st) := by
  obtain ⟨p, e, s, m, args, below, meth, c, Q, hx, hb, hml, ho, hK, hA, hZ, rfl⟩ := hJ
  intro H locs ls hP hD hS hl
  exact lv_istore hx hb hd hl hn hl9 (fun ls hl => kk H locs ls hP hD hS hl)
theorem nn_astore_n (hJ : nJ l cc nL D tys own R A Z J) {i : Nat} {k : Fin 4} {x : Nat} {lv' : List (Nat × Value)} (hd : decode cc pc = .ok (.astore_n k, 1)) (hi : (k : Nat) = i) (hn : i < nL) (hl9 : (i, Value.ref x) :: lv.filter (fun q => !(q.1 == i) && !(q.1 + 1 == i && q.2.category == 2)) = lv') (kk : J ck cs ws (pc + 1) lv' st) : J ck cs ws pc lv (.ref x :: st) := by
  obtain ⟨p, e, s, m, args, below, meth, c, Q, hx, hb, hml, ho, hK, hA, hZ, rfl⟩ := hJ
  intro H locs ls hP hD hS hl
  exact lv_astore_n hx hb hd hi hl hn hl9 (fun ls hl => kk H locs ls hP hD hS hl)
theorem nn_astore (hJ : nJ l cc nL D tys own R A Z J) {i : Nat}  {x : Nat} {lv' : List (Nat × Value)} (hd : decode cc pc = .ok (.astore i, 2))  (hn : i < nL) (hl9 : (i, Value.ref x) :: lv.filter (fun q => !(q.1 == i) && !(q.1 + 1 == i && q.2.category == 2)) = lv') (kk : J ck cs ws (pc + 2) lv' st) : J ck cs ws pc lv (.ref x :: st) := by
  obtain ⟨p, e, s, m, args, below, meth, c, Q, hx, hb, hml, ho, hK, hA, hZ, rfl⟩ := hJ
  intro H locs ls hP hD hS hl
  exact lv_astore hx hb hd hl hn hl9 (fun ls hl => kk H locs ls hP hD hS hl)
theorem nn_iinc (hJ : nJ l cc nL D tys own R A Z J) {i : Nat} {n : Int} {x v : Int32} {lv' : List (Nat × Value)} (hd : decode cc pc = .ok (.iinc i n, 3)) (j : Nat) (hj : lv[j]? = some (i, .int x)) (hv : x + Int32.ofInt n = v) (hn : i < nL) (hl9 : (i, Value.int v) :: lv.filter (fun q => !(q.1 == i) && !(q.1 + 1 == i && q.2.category == 2)) = lv') (kk : J ck cs ws (pc + 3) lv' st) : J ck cs ws pc lv st := by
  obtain ⟨p, e, s, m, args, below, meth, c, Q, hx, hb, hml, ho, hK, hA, hZ, rfl⟩ := hJ
  intro H locs ls hP hD hS hl
  exact lv_iinc hx hb hd hl hj hv hn hl9 (fun ls hl => kk H locs ls hP hD hS hl)
theorem nn_iadd (hJ : nJ l cc nL D tys own R A Z J) {x y : Int32} (hd : decode cc pc = .ok (.iadd, 1)) (kk : J ck cs ws (pc + 1) lv (.int (x + y) :: st)) : J ck cs ws pc lv (.int y :: .int x :: st) := by
  obtain ⟨p, e, s, m, args, below, meth, c, Q, hx, hb, hml, ho, hK, hA, hZ, rfl⟩ := hJ
  intro H locs ls hP hD hS hl
  exact lv_iadd hx hb hd (kk H locs ls hP hD hS hl)
theorem nn_isub (hJ : nJ l cc nL D tys own R A Z J) {x y : Int32} (hd : decode cc pc = .ok (.isub, 1)) (kk : J ck cs ws (pc + 1) lv (.int (x - y) :: st)) : J ck cs ws pc lv (.int y :: .int x :: st) := by
  obtain ⟨p, e, s, m, args, below, meth, c, Q, hx, hb, hml, ho, hK, hA, hZ, rfl⟩ := hJ
  intro H locs ls hP hD hS hl
  exact lv_isub hx hb hd (kk H locs ls hP hD hS hl)
theorem nn_imul (hJ : nJ l cc nL D tys own R A Z J) {x y : Int32} (hd : decode cc pc = .ok (.imul, 1)) (kk : J ck cs ws (pc + 1) lv (.int (x * y) :: st)) : J ck cs ws pc lv (.int y :: .int x :: st) := by
  obtain ⟨p, e, s, m, args, below, meth, c, Q, hx, hb, hml, ho, hK, hA, hZ, rfl⟩ := hJ
  intro H locs ls hP hD hS hl
  exact lv_imul hx hb hd (kk H locs ls hP hD hS hl)
theorem nn_iand (hJ : nJ l cc nL D tys own R A Z J) {x y : Int32} (hd : decode cc pc = .ok (.iand, 1)) (kk : J ck cs ws (pc + 1) lv (.int (x &&& y) :: st)) : J ck cs ws pc lv (.int y :: .int x :: st) := by
  obtain ⟨p, e, s, m, args, below, meth, c, Q, hx, hb, hml, ho, hK, hA, hZ, rfl⟩ := hJ
  intro H locs ls hP hD hS hl
  exact lv_iand hx hb hd (kk H locs ls hP hD hS hl)
theorem nn_ior (hJ : nJ l cc nL D tys own R A Z J) {x y : Int32} (hd : decode cc pc = .ok (.ior, 1)) (kk : J ck cs ws (pc + 1) lv (.int (x ||| y) :: st)) : J ck cs ws pc lv (.int y :: .int x :: st) := by
  obtain ⟨p, e, s, m, args, below, meth, c, Q, hx, hb, hml, ho, hK, hA, hZ, rfl⟩ := hJ
  intro H locs ls hP hD hS hl
  exact lv_ior hx hb hd (kk H locs ls hP hD hS hl)
theorem nn_ixor (hJ : nJ l cc nL D tys own R A Z J) {x y : Int32} (hd : decode cc pc = .ok (.ixor, 1)) (kk : J ck cs ws (pc + 1) lv (.int (x ^^^ y) :: st)) : J ck cs ws pc lv (.int y :: .int x :: st) := by
  obtain ⟨p, e, s, m, args, below, meth, c, Q, hx, hb, hml, ho, hK, hA, hZ, rfl⟩ := hJ
  intro H locs ls hP hD hS hl
  exact lv_ixor hx hb hd (kk H locs ls hP hD hS hl)
theorem nn_ishl (hJ : nJ l cc nL D tys own R A Z J) {x y : Int32} (hd : decode cc pc = .ok (.ishl, 1)) (kk : J ck cs ws (pc + 1) lv (.int (x <<< (y &&& 31)) :: st)) : J ck cs ws pc lv (.int y :: .int x :: st) := by
  obtain ⟨p, e, s, m, args, below, meth, c, Q, hx, hb, hml, ho, hK, hA, hZ, rfl⟩ := hJ
  intro H locs ls hP hD hS hl
  exact lv_ishl hx hb hd (kk H locs ls hP hD hS hl)
theorem nn_ishr (hJ : nJ l cc nL D tys own R A Z J) {x y : Int32} (hd : decode cc pc = .ok (.ishr, 1)) (kk : J ck cs ws (pc + 1) lv (.int (x >>> (y &&& 31)) :: st)) : J ck cs ws pc lv (.int y :: .int x :: st) := by
  obtain ⟨p, e, s, m, args, below, meth, c, Q, hx, hb, hml, ho, hK, hA, hZ, rfl⟩ := hJ
  intro H locs ls hP hD hS hl
  exact lv_ishr hx hb hd (kk H locs ls hP hD hS hl)
theorem nn_irem (hJ : nJ l cc nL D tys own R A Z J) {x y : Int32} (hd : decode cc pc = .ok (.irem, 1)) (hne : ¬ y = 0) (kk : J ck cs ws (pc + 1) lv (.int (x - x / y * y) :: st)) : J ck cs ws pc lv (.int y :: .int x :: st) := by
  obtain ⟨p, e, s, m, args, below, meth, c, Q, hx, hb, hml, ho, hK, hA, hZ, rfl⟩ := hJ
  intro H locs ls hP hD hS hl
  exact lv_irem hx hb hd hne (kk H locs ls hP hD hS hl)
theorem nn_ineg (hJ : nJ l cc nL D tys own R A Z J) {x : Int32} (hd : decode cc pc = .ok (.ineg, 1)) (kk : J ck cs ws (pc + 1) lv (.int (-x) :: st)) : J ck cs ws pc lv (.int x :: st) := by
  obtain ⟨p, e, s, m, args, below, meth, c, Q, hx, hb, hml, ho, hK, hA, hZ, rfl⟩ := hJ
  intro H locs ls hP hD hS hl
  exact lv_ineg hx hb hd (kk H locs ls hP hD hS hl)
theorem nn_i2l (hJ : nJ l cc nL D tys own R A Z J) {x : Int32} (hd : decode cc pc = .ok (.i2l, 1)) (kk : J ck cs ws (pc + 1) lv (.long x.toInt64 :: st)) : J ck cs ws pc lv (.int x :: st) := by
  obtain ⟨p, e, s, m, args, below, meth, c, Q, hx, hb, hml, ho, hK, hA, hZ, rfl⟩ := hJ
  intro H locs ls hP hD hS hl
  exact lv_i2l hx hb hd rfl (kk H locs ls hP hD hS hl)
theorem nn_lcmp (hJ : nJ l cc nL D tys own R A Z J) {x y : Int64} (hd : decode cc pc = .ok (.lcmp, 1)) (kk : J ck cs ws (pc + 1) lv (.int (lg_cmp x y) :: st)) : J ck cs ws pc lv (.long y :: .long x :: st) := by
  obtain ⟨p, e, s, m, args, below, meth, c, Q, hx, hb, hml, ho, hK, hA, hZ, rfl⟩ := hJ
  intro H locs ls hP hD hS hl
  exact W.lcmp hx hb hd (kk H locs ls hP hD hS hl)
theorem nn_dup (hJ : nJ l cc nL D tys own R A Z J) {va : Value} (hd : decode cc pc = .ok (.dup, 1)) (h1 : va.category = 1) (kk : J ck cs ws (pc + 1) lv (va :: va :: st)) : J ck cs ws pc lv (va :: st) := by
  obtain ⟨p, e, s, m, args, below, meth, c, Q, hx, hb, hml, ho, hK, hA, hZ, rfl⟩ := hJ
  intro H locs ls hP hD hS hl
  exact lv_dup hx hb hd h1 (kk H locs ls hP hD hS hl)
theorem nn_pop (hJ : nJ l cc nL D tys own R A Z J) {va : Value} (hd : decode cc pc = .ok (.pop, 1)) (h1 : va.category = 1) (kk : J ck cs ws (pc + 1) lv (st)) : J ck cs ws pc lv (va :: st) := by
  obtain ⟨p, e, s, m, args, below, meth, c, Q, hx, hb, hml, ho, hK, hA, hZ, rfl⟩ := hJ
  intro H locs ls hP hD hS hl
  exact lv_pop hx hb hd h1 (kk H locs ls hP hD hS hl)
theorem nn_dup2 (hJ : nJ l cc nL D tys own R A Z J) {va vb : Value} (hd : decode cc pc = .ok (.dup2, 1)) (h1 : va.category = 1) (h2 : vb.category = 1) (kk : J ck cs ws (pc + 1) lv (va :: vb :: va :: vb :: st)) : J ck cs ws pc lv (va :: vb :: st) := by
  obtain ⟨p, e, s, m, args, below, meth, c, Q, hx, hb, hml, ho, hK, hA, hZ, rfl⟩ := hJ
  intro H locs ls hP hD hS hl
  exact lv_dup2_11 hx hb hd h1 h2 (kk H locs ls hP hD hS hl)
theorem nn_if_eq (hJ : nJ l cc nL D tys own R A Z J) {x : Int32} {off : Int} (tgt : Nat) (hd : decode cc pc = .ok (.ifCond .eq off, 3)) (ht : (pc : Int) + off = (tgt : Int)) (kt : x = 0 → J ck cs ws tgt lv st) (kf : ¬ x = 0 → J ck cs ws (pc + 3) lv st) : J ck cs ws pc lv (.int x :: st) := by
  obtain ⟨p, e, s, m, args, below, meth, c, Q, hx, hb, hml, ho, hK, hA, hZ, rfl⟩ := hJ
  intro H locs ls hP hD hS hl
  exact lv_if_eq hx hb hd ht (fun h => kt h H locs ls hP hD hS hl) (fun h => kf h H locs ls hP hD hS hl)
theorem nn_if_ne (hJ : nJ l cc nL D tys own R A Z J) {x : Int32} {off : Int} (tgt : Nat) (hd : decode cc pc = .ok (.ifCond .ne off, 3)) (ht : (pc : Int) + off = (tgt : Int)) (kt : ¬ x = 0 → J ck cs ws tgt lv st) (kf : x = 0 → J ck cs ws (pc + 3) lv st) : J ck cs ws pc lv (.int x :: st) := by
  obtain ⟨p, e, s, m, args, below, meth, c, Q, hx, hb, hml, ho, hK, hA, hZ, rfl⟩ := hJ
  intro H locs ls hP hD hS hl
  exact lv_if_ne hx hb hd ht (fun h => kt h H locs ls hP hD hS hl) (fun h => kf h H locs ls hP hD hS hl)
theorem nn_if_lt (hJ : nJ l cc nL D tys own R A Z J) {x : Int32} {off : Int} (tgt : Nat) (hd : decode cc pc = .ok (.ifCond .lt off, 3)) (ht : (pc : Int) + off = (tgt : Int)) (kt : x < 0 → J ck cs ws tgt lv st) (kf : ¬ x < 0 → J ck cs ws (pc + 3) lv st) : J ck cs ws pc lv (.int x :: st) := by
  obtain ⟨p, e, s, m, args, below, meth, c, Q, hx, hb, hml, ho, hK, hA, hZ, rfl⟩ := hJ
  intro H locs ls hP hD hS hl
  exact lv_if_lt hx hb hd ht (fun h => kt h H locs ls hP hD hS hl) (fun h => kf h H locs ls hP hD hS hl)
theorem nn_if_ge (hJ : nJ l cc nL D tys own R A Z J) {x : Int32} {off : Int} (tgt : Nat) (hd : decode cc pc = .ok (.ifCond .ge off, 3)) (ht : (pc : Int) + off = (tgt : Int)) (kt : 0 ≤ x → J ck cs ws tgt lv st) (kf : ¬ 0 ≤ x → J ck cs ws (pc + 3) lv st) : J ck cs ws pc lv (.int x :: st) := by
  obtain ⟨p, e, s, m, args, below, meth, c, Q, hx, hb, hml, ho, hK, hA, hZ, rfl⟩ := hJ
  intro H locs ls hP hD hS hl
  exact lv_if_ge hx hb hd ht (fun h => kt h H locs ls hP hD hS hl) (fun h => kf h H locs ls hP hD hS hl)
theorem nn_if_gt (hJ : nJ l cc nL D tys own R A Z J) {x : Int32} {off : Int} (tgt : Nat) (hd : decode cc pc = .ok (.ifCond .gt off, 3)) (ht : (pc : Int) + off = (tgt : Int)) (kt : 0 < x → J ck cs ws tgt lv st) (kf : ¬ 0 < x → J ck cs ws (pc + 3) lv st) : J ck cs ws pc lv (.int x :: st) := by
  obtain ⟨p, e, s, m, args, below, meth, c, Q, hx, hb, hml, ho, hK, hA, hZ, rfl⟩ := hJ
  intro H locs ls hP hD hS hl
  exact lv_if_gt hx hb hd ht (fun h => kt h H locs ls hP hD hS hl) (fun h => kf h H locs ls hP hD hS hl)
theorem nn_if_le (hJ : nJ l cc nL D tys own R A Z J) {x : Int32} {off : Int} (tgt : Nat) (hd : decode cc pc = .ok (.ifCond .le off, 3)) (ht : (pc : Int) + off = (tgt : Int)) (kt : x ≤ 0 → J ck cs ws tgt lv st) (kf : ¬ x ≤ 0 → J ck cs ws (pc + 3) lv st) : J ck cs ws pc lv (.int x :: st) := by
  obtain ⟨p, e, s, m, args, below, meth, c, Q, hx, hb, hml, ho, hK, hA, hZ, rfl⟩ := hJ
  intro H locs ls hP hD hS hl
  exact lv_if_le hx hb hd ht (fun h => kt h H locs ls hP hD hS hl) (fun h => kf h H locs ls hP hD hS hl)
theorem nn_icmp_eq (hJ : nJ l cc nL D tys own R A Z J) {x y : Int32} {off : Int} (tgt : Nat) (hd : decode cc pc = .ok (.if_icmp .eq off, 3)) (ht : (pc : Int) + off = (tgt : Int)) (kt : x = y → J ck cs ws tgt lv st) (kf : ¬ x = y → J ck cs ws (pc + 3) lv st) : J ck cs ws pc lv (.int y :: .int x :: st) := by
  obtain ⟨p, e, s, m, args, below, meth, c, Q, hx, hb, hml, ho, hK, hA, hZ, rfl⟩ := hJ
  intro H locs ls hP hD hS hl
  exact lv_icmp_eq hx hb hd ht (fun h => kt h H locs ls hP hD hS hl) (fun h => kf h H locs ls hP hD hS hl)
theorem nn_icmp_ne (hJ : nJ l cc nL D tys own R A Z J) {x y : Int32} {off : Int} (tgt : Nat) (hd : decode cc pc = .ok (.if_icmp .ne off, 3)) (ht : (pc : Int) + off = (tgt : Int)) (kt : ¬ x = y → J ck cs ws tgt lv st) (kf : x = y → J ck cs ws (pc + 3) lv st) : J ck cs ws pc lv (.int y :: .int x :: st) := by
  obtain ⟨p, e, s, m, args, below, meth, c, Q, hx, hb, hml, ho, hK, hA, hZ, rfl⟩ := hJ
  intro H locs ls hP hD hS hl
  exact lv_icmp_ne hx hb hd ht (fun h => kt h H locs ls hP hD hS hl) (fun h => kf h H locs ls hP hD hS hl)
theorem nn_icmp_lt (hJ : nJ l cc nL D tys own R A Z J) {x y : Int32} {off : Int} (tgt : Nat) (hd : decode cc pc = .ok (.if_icmp .lt off, 3)) (ht : (pc : Int) + off = (tgt : Int)) (kt : x < y → J ck cs ws tgt lv st) (kf : ¬ x < y → J ck cs ws (pc + 3) lv st) : J ck cs ws pc lv (.int y :: .int x :: st) := by
  obtain ⟨p, e, s, m, args, below, meth, c, Q, hx, hb, hml, ho, hK, hA, hZ, rfl⟩ := hJ
  intro H locs ls hP hD hS hl
  exact lv_icmp_lt hx hb hd ht (fun h => kt h H locs ls hP hD hS hl) (fun h => kf h H locs ls hP hD hS hl)
theorem nn_icmp_ge (hJ : nJ l cc nL D tys own R A Z J) {x y : Int32} {off : Int} (tgt : Nat) (hd : decode cc pc = .ok (.if_icmp .ge off, 3)) (ht : (pc : Int) + off = (tgt : Int)) (kt : y ≤ x → J ck cs ws tgt lv st) (kf : ¬ y ≤ x → J ck cs ws (pc + 3) lv st) : J ck cs ws pc lv (.int y :: .int x :: st) := by
  obtain ⟨p, e, s, m, args, below, meth, c, Q, hx, hb, hml, ho, hK, hA, hZ, rfl⟩ := hJ
  intro H locs ls hP hD hS hl
  exact lv_icmp_ge hx hb hd ht (fun h => kt h H locs ls hP hD hS hl) (fun h => kf h H locs ls hP hD hS hl)
theorem nn_icmp_gt (hJ : nJ l cc nL D tys own R A Z J) {x y : Int32} {off : Int} (tgt : Nat) (hd : decode cc pc = .ok (.if_icmp .gt off, 3)) (ht : (pc : Int) + off = (tgt : Int)) (kt : y < x → J ck cs ws tgt lv st) (kf : ¬ y < x → J ck cs ws (pc + 3) lv st) : J ck cs ws pc lv (.int y :: .int x :: st) := by
  obtain ⟨p, e, s, m, args, below, meth, c, Q, hx, hb, hml, ho, hK, hA, hZ, rfl⟩ := hJ
  intro H locs ls hP hD hS hl
  exact lv_icmp_gt hx hb hd ht (fun h => kt h H locs ls hP hD hS hl) (fun h => kf h H locs ls hP hD hS hl)
theorem nn_icmp_le (hJ : nJ l cc nL D tys own R A Z J) {x y : Int32} {off : Int} (tgt : Nat) (hd : decode cc pc = .ok (.if_icmp .le off, 3)) (ht : (pc : Int) + off = (tgt : Int)) (kt : x ≤ y → J ck cs ws tgt lv st) (kf : ¬ x ≤ y → J ck cs ws (pc + 3) lv st) : J ck cs ws pc lv (.int y :: .int x :: st) := by
  obtain ⟨p, e, s, m, args, below, meth, c, Q, hx, hb, hml, ho, hK, hA, hZ, rfl⟩ := hJ
  intro H locs ls hP hD hS hl
  exact lv_icmp_le hx hb hd ht (fun h => kt h H locs ls hP hD hS hl) (fun h => kf h H locs ls hP hD hS hl)
theorem nn_goto (hJ : nJ l cc nL D tys own R A Z J) {off : Int} (tgt : Nat) (hd : decode cc pc = .ok (.goto off, 3)) (ht : (pc : Int) + off = (tgt : Int)) (kk : J ck cs ws tgt lv st) : J ck cs ws pc lv st := by
  obtain ⟨p, e, s, m, args, below, meth, c, Q, hx, hb, hml, ho, hK, hA, hZ, rfl⟩ := hJ
  intro H locs ls hP hD hS hl
  exact lv_goto hx hb hd ht (kk H locs ls hP hD hS hl)
theorem nn_tin (hJ : nJ l cc nL D tys own R A Z J) {dflt lo hi : Int} {offs : Array Int} {len : Nat} {x : Int32} {off : Int} (tgt : Nat) (hd : decode cc pc = .ok (.tableswitch dflt lo hi offs, len)) (h1 : ¬ x.toInt < lo) (h2 : ¬ hi < x.toInt) (h3 : offs[(x.toInt - lo).toNat]? = some off) (ht : (pc : Int) + off = (tgt : Int)) (kk : J ck cs ws tgt lv st) : J ck cs ws pc lv (.int x :: st) := by
  obtain ⟨p, e, s, m, args, below, meth, c, Q, hx, hb, hml, ho, hK, hA, hZ, rfl⟩ := hJ
  intro H locs ls hP hD hS hl
  exact lv_tableIn hx hb hd h1 h2 h3 ht (kk H locs ls hP hD hS hl)
theorem nn_tout (hJ : nJ l cc nL D tys own R A Z J) {dflt lo hi : Int} {offs : Array Int} {len : Nat} {x : Int32} (tgt : Nat) (hd : decode cc pc = .ok (.tableswitch dflt lo hi offs, len)) (h1 : x.toInt < lo ∨ hi < x.toInt) (ht : (pc : Int) + dflt = (tgt : Int)) (kk : J ck cs ws tgt lv st) : J ck cs ws pc lv (.int x :: st) := by
  obtain ⟨p, e, s, m, args, below, meth, c, Q, hx, hb, hml, ho, hK, hA, hZ, rfl⟩ := hJ
  intro H locs ls hP hD hS hl
  exact lv_tableOut hx hb hd h1 ht (kk H locs ls hP hD hS hl)
theorem nn_lsw (hJ : nJ l cc nL D tys own R A Z J) {dflt : Int} {ps : Array (Int × Int)} {len : Nat} {x : Int32} {off : Int} (tgt : Nat) (hd : decode cc pc = .ok (.lookupswitch dflt ps, len)) (hp : (ps.toList.zip (ps.toList.drop 1)).all (fun (a, next) => a.1 < next.1) = true) (h3 : Op.lookupswitch.offset ps.toList dflt x.toInt = off) (ht : (pc : Int) + off = (tgt : Int)) (kk : J ck cs ws tgt lv st) : J ck cs ws pc lv (.int x :: st) := by
  obtain ⟨p, e, s, m, args, below, meth, c, Q, hx, hb, hml, ho, hK, hA, hZ, rfl⟩ := hJ
  intro H locs ls hP hD hS hl
  exact lv_lookup hx hb hd hp h3 ht (kk H locs ls hP hD hS hl)
theorem nn_lv (hJ : nJ l cc nL D tys own R A Z J) {lv' : List (Nat × Value)} (ks : List Nat) (hk : lv_pick lv ks = lv') (kk : J ck cs ws pc lv' st) : J ck cs ws pc lv st := by
  obtain ⟨p, e, s, m, args, below, meth, c, Q, hx, hb, hml, ho, hK, hA, hZ, rfl⟩ := hJ
  intro H locs ls hP hD hS hl
  exact kk H locs ls hP hD hS (lv_sub hl ks hk)
theorem nn_get (hJ : nJ l cc nL D tys own R A Z J) {C : String} {T : u_T} {N ci index a : Nat} {fs : List Value} {v : Value} (hlay : ∀ w ∈ u_ws C T N, w ∈ lw_tbl ∧ goodWord w = true) (hd : decode cc pc = .ok (.getfield index, 3)) (q0 k : Nat) (he : ws[q0]? = some (a, .inr (ci, fs))) (hc : vwCl[ci]? = some (C, T, N)) (hk : k < N) (hw : Cond.fieldLink own index (T k).1 (T k).2.1 (T k).2.2.1 ∈ lw_tbl) (hv : fs[k]? = some v) (kk : J ck cs ws (pc + 3) lv (v :: st)) : J ck cs ws pc lv (.ref a :: st) := by
  obtain ⟨p, e, s, m, args, below, meth, c, Q, hx, hb, hml, ho, hK, hA, hZ, rfl⟩ := hJ
  intro H locs ls hP hD hS hl
  exact va_get (Ts := u_ws C T N) hx hb (fun w h => hK.2.1 w (hlay w h).1 (hlay w h).2 args) (fun _ h => h) ho hK.1 hP q0 he hc k hk (hK.2.1 _ hw rfl args) (fun _ h => h) hv hd (kk H locs ls hP hD hS hl)
theorem nn_getN (hJ : nJ l cc nL D tys own R A Z J) {C host : String} {T : u_T} {N ci index a : Nat} {fs : List Value} {v : Value} (hlay : ∀ w ∈ u_ws C T N, w ∈ lw_tbl ∧ goodWord w = true) (hd : decode cc pc = .ok (.getfield index, 3)) (q0 k : Nat) (he : ws[q0]? = some (a, .inr (ci, fs))) (hc : vwCl[ci]? = some (C, T, N)) (hk : k < N) (hw : (own, index, (T k).1, (T k).2.1, (T k).2.2.1, host) ∈ nestF) (hv : fs[k]? = some v) (kk : J ck cs ws (pc + 3) lv (v :: st)) : J ck cs ws pc lv (.ref a :: st) := by
  obtain ⟨p, e, s, m, args, below, meth, c, Q, hx, hb, hml, ho, hK, hA, hZ, rfl⟩ := hJ
  intro H locs ls hP hD hS hl
  exact va_getN (Ts := u_ws C T N) hx hb (fun w h => hK.2.1 w (hlay w h).1 (hlay w h).2 args) (fun _ h => h) ho hK.1 hP q0 he hc k hk (va_Nw.use rfl (hK.2.2.1 _ hw)) (fun _ h => h) hv hd (kk H locs ls hP hD hS hl)
theorem nn_puti (hJ : nJ l cc nL D tys own R A Z J) {C : String} {T : u_T} {N ci index a : Nat} {fs : List Value} {x : Int32} {wn : va_W} (hlay : ∀ w ∈ u_ws C T N, w ∈ lw_tbl ∧ goodWord w = true)(ty0 : Nat → FieldType) (hty : ∀ k, k < N → parseFieldDescriptor (T k).2.2.1 = some (ty0 k)) (hnm : ∀ a, a < N → ∀ b, b < N → a ≠ b → (T a).2.1 ≠ (T b).2.1) (hd : decode cc pc = .ok (.putfield index, 3)) (q0 k : Nat) (he : ws[q0]? = some (a, .inr (ci, fs))) (hc : vwCl[ci]? = some (C, T, N)) (hk : k < N) (hw : Cond.fieldLink own index (T k).1 (T k).2.1 (T k).2.2.1 ∈ lw_tbl) (hfin : (T k).2.2.2 = false) (hpd : parseFieldDescriptor (T k).2.2.1 = some .int) (hlen : k < fs.length) (hwn : ws.set q0 (a, .inr (ci, fs.set k (.int x))) = wn) (kk : J ck cs wn (pc + 3) lv st) : J ck cs ws pc lv (.int x :: .ref a :: st) := by
  obtain ⟨p, e, s, m, args, below, meth, c, Q, hx, hb, hml, ho, hK, hA, hZ, rfl⟩ := hJ
  intro H locs ls hP hD hS hl
  subst hwn
  exact va_put (Ts := u_ws C T N) (ty := .int) hx hb (fun w h => hK.2.1 w (hlay w h).1 (hlay w h).2 args) (fun _ h => h) ty0 hty hnm ho hK.1 hP hD hS q0 he hc k hk (hK.2.1 _ hw rfl args) (fun _ h => h) hfin hpd rfl rfl hlen hd (fun H locs hP hD hS => kk H locs ls hP hD hS hl)
theorem nn_putN (hJ : nJ l cc nL D tys own R A Z J) {C host : String} {T : u_T} {N ci index a : Nat} {fs : List Value} {x : Int32} {wn : va_W} (hlay : ∀ w ∈ u_ws C T N, w ∈ lw_tbl ∧ goodWord w = true)(ty0 : Nat → FieldType) (hty : ∀ k, k < N → parseFieldDescriptor (T k).2.2.1 = some (ty0 k)) (hnm : ∀ a, a < N → ∀ b, b < N → a ≠ b → (T a).2.1 ≠ (T b).2.1) (hd : decode cc pc = .ok (.putfield index, 3)) (q0 k : Nat) (he : ws[q0]? = some (a, .inr (ci, fs))) (hc : vwCl[ci]? = some (C, T, N)) (hk : k < N) (hw : (own, index, (T k).1, (T k).2.1, (T k).2.2.1, host) ∈ nestF) (hfin : (T k).2.2.2 = false) (hpd : parseFieldDescriptor (T k).2.2.1 = some .int) (hlen : k < fs.length) (hwn : ws.set q0 (a, .inr (ci, fs.set k (.int x))) = wn) (kk : J ck cs wn (pc + 3) lv st) : J ck cs ws pc lv (.int x :: .ref a :: st) := by
  obtain ⟨p, e, s, m, args, below, meth, c, Q, hx, hb, hml, ho, hK, hA, hZ, rfl⟩ := hJ
  intro H locs ls hP hD hS hl
  subst hwn
  exact va_putN (Ts := u_ws C T N) (ty := .int) hx hb (fun w h => hK.2.1 w (hlay w h).1 (hlay w h).2 args) (fun _ h => h) ty0 hty hnm ho hK.1 hP hD hS q0 he hc k hk (va_Nw.use rfl (hK.2.2.1 _ hw)) (fun _ h => h) hfin hpd rfl rfl hlen hd (fun H locs hP hD hS => kk H locs ls hP hD hS hl)
theorem nn_iald (hJ : nJ l cc nL D tys own R A Z J) {cA : ClassId} {n a : Nat} {f : Nat → Int32} {i x : Int32} (hd : decode cc pc = .ok (.iaload, 1)) (q0 t0 : Nat) (ha : ws[q0]? = some (a, .inl (cA, n, .inl f))) (ht : tys[t0]? = some (cA, .int)) (hr9 : rd f n i = some x) (kk : J ck cs ws (pc + 1) lv (.int x :: st)) : J ck cs ws pc lv (.int i :: .ref a :: st) := by
  obtain ⟨p, e, s, m, args, below, meth, c, Q, hx, hb, hml, ho, hK, hA, hZ, rfl⟩ := hJ
  intro H locs ls hP hD hS hl
  obtain ⟨hin, rfl⟩ := rd_some hr9
  exact va_iald hx hb hK.1 hP q0 t0 ha ht hin hd (kk H locs ls hP hD hS hl)
theorem nn_iast (hJ : nJ l cc nL D tys own R A Z J) {cA : ClassId} {n a : Nat} {f g : Nat → Int32} {i x : Int32} {wn : va_W} (hd : decode cc pc = .ok (.iastore, 1)) (q0 t0 : Nat) (ha : ws[q0]? = some (a, .inl (cA, n, .inl f))) (ht : tys[t0]? = some (cA, .int)) (hr9 : wr f n i x = some g) (hwn : ws.set q0 (a, .inl (cA, n, .inl g)) = wn) (kk : J ck cs wn (pc + 1) lv st) : J ck cs ws pc lv (.int x :: .int i :: .ref a :: st) := by
  obtain ⟨p, e, s, m, args, below, meth, c, Q, hx, hb, hml, ho, hK, hA, hZ, rfl⟩ := hJ
  intro H locs ls hP hD hS hl
  obtain ⟨hin, rfl⟩ := wr_some hr9
  subst hwn
  exact va_iast hx hb hK.1 hP hD hS q0 t0 ha ht hin hd (fun H locs hP hD hS => kk H locs ls hP hD hS hl)
theorem nn_aald (hJ : nJ l cc nL D tys own R A Z J) {cA : ClassId} {ty : FieldType} {n a b : Nat} {f : Nat → Option Nat} {i : Int32} (hd : decode cc pc = .ok (.aaload, 1)) (q0 t0 : Nat) (ha : ws[q0]? = some (a, .inl (cA, n, .inr (.inr (.inr (.inr f)))))) (ht : tys[t0]? = some (cA, ty)) (hty : ty.isReference = true) (hin : vp_in i n) (hb9 : f i.toNatClampNeg = some b) (kk : J ck cs ws (pc + 1) lv (.ref b :: st)) : J ck cs ws pc lv (.int i :: .ref a :: st) := by
  obtain ⟨p, e, s, m, args, below, meth, c, Q, hx, hb, hml, ho, hK, hA, hZ, rfl⟩ := hJ
  intro H locs ls hP hD hS hl
  have hlt : i.toNatClampNeg < n := Nat.not_le.mp fun q => hin (Or.inr q)
  have e9 : va_rf (f i.toNatClampNeg) = .ref b := by rw [hb9]; rfl
  exact W.aald (v := .ref b) (ty := ty) hx hb (hP q0 _ ha) ((hK.1.2 t0 _ ht).1 n (fun j => va_rf (f j))) hty (fun q => by cases q) (by show ¬ (i < 0 ∨ (arrV _ _ _).slots.size ≤ _); rw [arrV_size]; exact hin) (by show (arrV _ _ _).slots[_]? = _; rw [arrV_read _ _ hlt, e9]) rfl rfl hd (kk H locs ls hP hD hS hl)
theorem nn_aast (hJ : nJ l cc nL D tys own R A Z J) {cA : ClassId} {r : vw_C} {n a v ci : Nat} {vs : List Value} {f g : Nat → Option Nat} {i : Int32} {wn : va_W} (hd : decode cc pc = .ok (.aastore, 1)) (q0 t0 qk : Nat) (ha : ws[q0]? = some (a, .inl (cA, n, .inr (.inr (.inr (.inr f)))))) (ht : tys[t0]? = some (cA, .object r.1)) (hv : ws[qk]? = some (v, .inr (ci, vs))) (hc : vwCl[ci]? = some r) (hin : vp_in i n) (hg : va_up f i.toNatClampNeg (some v) = g) (hwn : ws.set q0 (a, .inl (cA, n, .inr (.inr (.inr (.inr g))))) = wn) (kk : J ck cs wn (pc + 1) lv st) : J ck cs ws pc lv (.ref v :: .int i :: .ref a :: st) := by
  obtain ⟨p, e, s, m, args, below, meth, c, Q, hx, hb, hml, ho, hK, hA, hZ, rfl⟩ := hJ
  intro H locs ls hP hD hS hl
  subst hg
  subst hwn
  exact va_astq hx hb hK.1 hP hD hS q0 t0 qk ci ha ht hv hc hin hd (fun H locs hP hD hS => kk H locs ls hP hD hS hl)
end NR
section NC
variable {l : Launch} {cc : ByteArray} {nL : Nat} {D : va_G} {tys : List (ClassId × FieldType)} {own : String} {R : Room} {A : Nat → Prop} {Z : nZ} {J : nT} {ws : va_W} {pc : Nat} {lv : List (Nat × Value)} {st : List Value}
theorem nRun {p : Program} {e : Env} {s : State} {m : MethodId} {args : Array Value} {below : List Frame} {meth : Method} {c : Code} {H : Heap} {locs : List Loc} {ls : Array Slot} {Q : State → Prop} {ck cs : Nat} {st0 rest : List Value} {wc wc' wn : va_W} {r : Option Int32} {isC : List Nat} {a : Array Value}
    (hr : va_Run p l e R s m args below meth c H locs ck cs 0 0 (F0 m pc ls st0) rest (cPost D (aS wc) r wc' a) (aS wc)) (hP : va_P D vwCl ws H) (hD : va_D A ws) (hS : va_S A s.heap H locs) (hC : isC.map (fun i => ws[i]?) = wc.map some) (hN : jNew ws wc wc' wn isC)
    (kk : ∀ (H1 : Heap) (locs1 : List Loc), va_P D vwCl wn H1 → va_D A wn → va_S A s.heap H1 locs1 → W p l e R s m args below meth c H1 locs1 ck cs Q (F0 m (pc + 3) ls ((r.map Value.int).toList ++ rest))) : W p l e R s m args below meth c H locs ck cs Q (F0 m pc ls st0) := by
  intro T hT X
  obtain ⟨v, st₀, t, T', L, h0, X', hL, e1, e2, ⟨hv, hP1, hz, hk⟩, stp⟩ := hr T hT X
  have hv' : v = r.map Value.int := by cases hv; rfl
  subst hv'
  rw [h0] at hz hk
  rw [← e1] at hP1 hz hk
  obtain ⟨hP2, hD2⟩ := put_world (isC := isC) hP hD hC hN hk hP1
  have hS2 : va_S A s.heap T'.heap (locs ++ L) := ⟨Nat.le_trans hS.1 hz, fun q h1 h2 => by rw [hk q (Nat.lt_of_lt_of_le h1 hS.1) (fun z => h2 (sub_A hD hC q z))]; exact hS.2.1 q h1 h2, fun q hq => (List.mem_append.mp hq).elim (hS.2.2 q) (fun h => sub_A hD hC _ (hL q h))⟩
  obtain ⟨t2, a1, b1⟩ := kk T'.heap (locs ++ L) hP2 hD2 hS2 T' rfl X'
  exact ⟨t2, stp t2 a1, b1⟩
theorem nRun0 {p : Program} {e : Env} {s : State} {m : MethodId} {args : Array Value} {below : List Frame} {meth : Method} {c : Code} {H : Heap} {locs : List Loc} {ls : Array Slot} {Q : State → Prop} {ck cs : Nat} {st0 rest : List Value} {wc : va_W} {r : Option Int32} {isC : List Nat} {a : Array Value}
    (hr : va_Run p l e R s m args below meth c H locs ck cs 0 0 (F0 m pc ls st0) rest (cPost D (aS wc) r wc a) (aS wc)) (hP : va_P D vwCl ws H) (hD : va_D A ws) (hS : va_S A s.heap H locs) (hC : isC.map (fun i => ws[i]?) = wc.map some)
    (kk : ∀ (H1 : Heap) (locs1 : List Loc), va_P D vwCl ws H1 → va_S A s.heap H1 locs1 → W p l e R s m args below meth c H1 locs1 ck cs Q (F0 m (pc + 3) ls ((r.map Value.int).toList ++ rest))) : W p l e R s m args below meth c H locs ck cs Q (F0 m pc ls st0) := by
  intro T hT X
  obtain ⟨v, st₀, t, T', L, h0, X', hL, e1, e2, ⟨hv, hP1, hz, hk⟩, stp⟩ := hr T hT X
  have hv' : v = r.map Value.int := by cases hv; rfl
  subst hv'
  rw [h0] at hz hk
  rw [← e1] at hP1 hz hk
  have hP2 := keep_world (isC := isC) hP hD hC hk hP1
  have hS2 : va_S A s.heap T'.heap (locs ++ L) := ⟨Nat.le_trans hS.1 hz, fun q h1 h2 => by rw [hk q (Nat.lt_of_lt_of_le h1 hS.1) (fun z => h2 (sub_A hD hC q z))]; exact hS.2.1 q h1 h2, fun q hq => (List.mem_append.mp hq).elim (hS.2.2 q) (fun h => sub_A hD hC _ (hL q h))⟩
  obtain ⟨t2, a1, b1⟩ := kk T'.heap (locs ++ L) hP2 hS2 T' rfl X'
  exact ⟨t2, stp t2 a1, b1⟩
variable {ck cs : Nat}
theorem nn_callV (hJ : nJ l cc nL D tys own R A Z J) {y : MethodName} {bytes : ByteArray} {maxL n index b ci N : Nat} {rty : Option FieldType} {Rc : Room} {As rest : List Value} {wc wc' wn : va_W} {r : Option Int32} {C : String} {T : u_T} {fs : List Value}
    (hM : MJ l y bytes maxL rty Rc D tys (.ref b :: As) wc r wc') (hd : decode cc pc = .ok (.invokevirtual index, 3)) (hcc : ck ≤ R.cells ∧ cs ≤ R.slots) (hk : cwOk y bytes maxL rty n) (hR : cwRm R Rc maxL) (h1 : Cond.methodLink own index y ∈ lw_tbl) (h2 : Cond.instanceMethod y ∈ lw_tbl) (h3 : Cond.selects C y y ∈ lw_tbl)
    (q0 : Nat) (he : ws[q0]? = some (b, .inr (ci, fs))) (hc : vwCl[ci]? = some (C, T, N)) (hn : As.length = n) (hst : As.reverse ++ .ref b :: rest = st) (hroom : (rest.map fun v => v.category).sum ≤ 8) (isC : List Nat) (hC : isC.map (fun i => ws[i]?) = wc.map some) (hnd : va_nd isC = true) (hN : jNew ws wc wc' wn isC)
    (kk : J ck cs wn (pc + 3) lv ((r.map Value.int).toList ++ rest)) : J ck cs ws pc lv st := by
  subst hst
  obtain ⟨p, e, s, m, args, below, meth, c, Q, hx, hb, hml, ho, hK, hA, hZ, rfl⟩ := hJ
  intro H locs ls hP hD hS hl
  exact nRun (va_runV (Ts := []) (As := As) (rest := rest) ⟨hx, hb, hml, ho, fun _ h => absurd h List.not_mem_nil⟩ hM ⟨jcB hK hk hR h1, hK.2.1 _ h2 rfl args, hK.2.1 _ h3 rfl args⟩ ⟨cPre_blind, va_recv hK.1 hP hc he, fun U hU hW => ⟨rfl, by rw [hU]; exact sub_P hP hC, hK.warm hW, sub_D hD hnd hC⟩⟩ rfl hn hl.1 rfl (lv_room hroom) hd hcc) hP hD hS hC hN (fun H locs hP hD hS => kk H locs ls hP hD hS hl)
theorem nn_callN (hJ : nJ l cc nL D tys own R A Z J) {y : MethodName} {bytes : ByteArray} {maxL n index b ci N : Nat} {rty : Option FieldType} {Rc : Room} {As rest : List Value} {wc wc' wn : va_W} {r : Option Int32} {C host : String} {T : u_T} {fs : List Value}
    (hM : MJ l y bytes maxL rty Rc D tys (.ref b :: As) wc r wc') (hd : decode cc pc = .ok (.invokevirtual index, 3)) (hcc : ck ≤ R.cells ∧ cs ≤ R.slots) (hk : cwOk y bytes maxL rty n) (hR : cwRm R Rc maxL) (h1 : (own, index, y, host) ∈ nestM) (h2 : Cond.instanceMethod y ∈ lw_tbl) (h3 : Cond.selects C y y ∈ lw_tbl)
    (q0 : Nat) (he : ws[q0]? = some (b, .inr (ci, fs))) (hc : vwCl[ci]? = some (C, T, N)) (hn : As.length = n) (hst : As.reverse ++ .ref b :: rest = st) (hroom : (rest.map fun v => v.category).sum ≤ 8) (isC : List Nat) (hC : isC.map (fun i => ws[i]?) = wc.map some) (hnd : va_nd isC = true) (hN : jNew ws wc wc' wn isC)
    (kk : J ck cs wn (pc + 3) lv ((r.map Value.int).toList ++ rest)) : J ck cs ws pc lv st := by
  subst hst
  obtain ⟨p, e, s, m, args, below, meth, c, Q, hx, hb, hml, ho, hK, hA, hZ, rfl⟩ := hJ
  intro H locs ls hP hD hS hl
  exact nRun (va_runVN (Ts := []) (C := C) (As := As) (rest := rest) ⟨hx, hb, hml, ho, fun _ h => absurd h List.not_mem_nil⟩ hM ⟨jcN hK hk hR h1, hK.2.1 _ h2 rfl args, hK.2.1 _ h3 rfl args⟩ ⟨cPre_blind, va_recv hK.1 hP hc he, fun U hU hW => ⟨rfl, by rw [hU]; exact sub_P hP hC, hK.warm hW, sub_D hD hnd hC⟩⟩ rfl hn hl.1 rfl (lv_room hroom) hd hcc) hP hD hS hC hN (fun H locs hP hD hS => kk H locs ls hP hD hS hl)
theorem nn_callS (hJ : nJ l cc nL D tys own R A Z J) {y : MethodName} {bytes : ByteArray} {maxL n index : Nat} {rty : Option FieldType} {Rc : Room} {As rest : List Value} {wc wc' wn : va_W} {r : Option Int32}
    (hM : MJ l y bytes maxL rty Rc D tys As wc r wc') (hd : decode cc pc = .ok (.invokestatic index, 3)) (hcc : ck ≤ R.cells ∧ cs ≤ R.slots) (hk : cwOk y bytes maxL rty n) (hR : cwRm R Rc maxL) (h1 : Cond.methodLink own index y ∈ lw_tbl) (h2 : Cond.static y ∈ lw_tbl)
    (hn : As.length = n) (hst : As.reverse ++ rest = st) (hroom : (rest.map fun v => v.category).sum ≤ 8) (isC : List Nat) (hC : isC.map (fun i => ws[i]?) = wc.map some) (hnd : va_nd isC = true) (hN : jNew ws wc wc' wn isC)
    (kk : J ck cs wn (pc + 3) lv ((r.map Value.int).toList ++ rest)) : J ck cs ws pc lv st := by
  subst hst
  obtain ⟨p, e, s, m, args, below, meth, c, Q, hx, hb, hml, ho, hK, hA, hZ, rfl⟩ := hJ
  intro H locs ls hP hD hS hl
  exact nRun (va_runS (Ts := []) (As := As) (rest := rest) ⟨hx, hb, hml, ho, fun _ h => absurd h List.not_mem_nil⟩ hM ⟨jcB hK hk hR h1, hK.2.1 _ h2 rfl args⟩ ⟨cPre_blind, fun U hU hW => ⟨rfl, by rw [hU]; exact sub_P hP hC, hK.warm hW, sub_D hD hnd hC⟩⟩ rfl hn hl.1 rfl (lv_room hroom) hd hcc) hP hD hS hC hN (fun H locs hP hD hS => kk H locs ls hP hD hS hl)
theorem nn_callV0 (hJ : nJ l cc nL D tys own R A Z J) {y : MethodName} {bytes : ByteArray} {maxL n index b ci N : Nat} {rty : Option FieldType} {Rc : Room} {As rest : List Value} {wc : va_W} {r : Option Int32} {C : String} {T : u_T} {fs : List Value}
    (hM : MJ l y bytes maxL rty Rc D tys (.ref b :: As) wc r wc) (hd : decode cc pc = .ok (.invokevirtual index, 3)) (hcc : ck ≤ R.cells ∧ cs ≤ R.slots) (hk : cwOk y bytes maxL rty n) (hR : cwRm R Rc maxL) (h1 : Cond.methodLink own index y ∈ lw_tbl) (h2 : Cond.instanceMethod y ∈ lw_tbl) (h3 : Cond.selects C y y ∈ lw_tbl)
    (q0 : Nat) (he : ws[q0]? = some (b, .inr (ci, fs))) (hc : vwCl[ci]? = some (C, T, N)) (hn : As.length = n) (hst : As.reverse ++ .ref b :: rest = st) (hroom : (rest.map fun v => v.category).sum ≤ 8) (isC : List Nat) (hC : isC.map (fun i => ws[i]?) = wc.map some) (hnd : va_nd isC = true)
    (kk : J ck cs ws (pc + 3) lv ((r.map Value.int).toList ++ rest)) : J ck cs ws pc lv st := by
  subst hst
  obtain ⟨p, e, s, m, args, below, meth, c, Q, hx, hb, hml, ho, hK, hA, hZ, rfl⟩ := hJ
  intro H locs ls hP hD hS hl
  exact nRun0 (va_runV (Ts := []) (As := As) (rest := rest) ⟨hx, hb, hml, ho, fun _ h => absurd h List.not_mem_nil⟩ hM ⟨jcB hK hk hR h1, hK.2.1 _ h2 rfl args, hK.2.1 _ h3 rfl args⟩ ⟨cPre_blind, va_recv hK.1 hP hc he, fun U hU hW => ⟨rfl, by rw [hU]; exact sub_P hP hC, hK.warm hW, sub_D hD hnd hC⟩⟩ rfl hn hl.1 rfl (lv_room hroom) hd hcc) hP hD hS hC (fun H locs hP hS => kk H locs ls hP hD hS hl)
theorem nn_callN0 (hJ : nJ l cc nL D tys own R A Z J) {y : MethodName} {bytes : ByteArray} {maxL n index b ci N : Nat} {rty : Option FieldType} {Rc : Room} {As rest : List Value} {wc : va_W} {r : Option Int32} {C host : String} {T : u_T} {fs : List Value}
    (hM : MJ l y bytes maxL rty Rc D tys (.ref b :: As) wc r wc) (hd : decode cc pc = .ok (.invokevirtual index, 3)) (hcc : ck ≤ R.cells ∧ cs ≤ R.slots) (hk : cwOk y bytes maxL rty n) (hR : cwRm R Rc maxL) (h1 : (own, index, y, host) ∈ nestM) (h2 : Cond.instanceMethod y ∈ lw_tbl) (h3 : Cond.selects C y y ∈ lw_tbl)
    (q0 : Nat) (he : ws[q0]? = some (b, .inr (ci, fs))) (hc : vwCl[ci]? = some (C, T, N)) (hn : As.length = n) (hst : As.reverse ++ .ref b :: rest = st) (hroom : (rest.map fun v => v.category).sum ≤ 8) (isC : List Nat) (hC : isC.map (fun i => ws[i]?) = wc.map some) (hnd : va_nd isC = true)
    (kk : J ck cs ws (pc + 3) lv ((r.map Value.int).toList ++ rest)) : J ck cs ws pc lv st := by
  subst hst
  obtain ⟨p, e, s, m, args, below, meth, c, Q, hx, hb, hml, ho, hK, hA, hZ, rfl⟩ := hJ
  intro H locs ls hP hD hS hl
  exact nRun0 (va_runVN (Ts := []) (C := C) (As := As) (rest := rest) ⟨hx, hb, hml, ho, fun _ h => absurd h List.not_mem_nil⟩ hM ⟨jcN hK hk hR h1, hK.2.1 _ h2 rfl args, hK.2.1 _ h3 rfl args⟩ ⟨cPre_blind, va_recv hK.1 hP hc he, fun U hU hW => ⟨rfl, by rw [hU]; exact sub_P hP hC, hK.warm hW, sub_D hD hnd hC⟩⟩ rfl hn hl.1 rfl (lv_room hroom) hd hcc) hP hD hS hC (fun H locs hP hS => kk H locs ls hP hD hS hl)
theorem nn_callS0 (hJ : nJ l cc nL D tys own R A Z J) {y : MethodName} {bytes : ByteArray} {maxL n index : Nat} {rty : Option FieldType} {Rc : Room} {As rest : List Value} {wc : va_W} {r : Option Int32}
    (hM : MJ l y bytes maxL rty Rc D tys As wc r wc) (hd : decode cc pc = .ok (.invokestatic index, 3)) (hcc : ck ≤ R.cells ∧ cs ≤ R.slots) (hk : cwOk y bytes maxL rty n) (hR : cwRm R Rc maxL) (h1 : Cond.methodLink own index y ∈ lw_tbl) (h2 : Cond.static y ∈ lw_tbl)
    (hn : As.length = n) (hst : As.reverse ++ rest = st) (hroom : (rest.map fun v => v.category).sum ≤ 8) (isC : List Nat) (hC : isC.map (fun i => ws[i]?) = wc.map some) (hnd : va_nd isC = true)
    (kk : J ck cs ws (pc + 3) lv ((r.map Value.int).toList ++ rest)) : J ck cs ws pc lv st := by
  subst hst
  obtain ⟨p, e, s, m, args, below, meth, c, Q, hx, hb, hml, ho, hK, hA, hZ, rfl⟩ := hJ
  intro H locs ls hP hD hS hl
  exact nRun0 (va_runS (Ts := []) (As := As) (rest := rest) ⟨hx, hb, hml, ho, fun _ h => absurd h List.not_mem_nil⟩ hM ⟨jcB hK hk hR h1, hK.2.1 _ h2 rfl args⟩ ⟨cPre_blind, fun U hU hW => ⟨rfl, by rw [hU]; exact sub_P hP hC, hK.warm hW, sub_D hD hnd hC⟩⟩ rfl hn hl.1 rfl (lv_room hroom) hd hcc) hP hD hS hC (fun H locs hP hS => kk H locs ls hP hD hS hl)
end NC
