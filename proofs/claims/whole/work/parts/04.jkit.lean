/-! The worlds' judgement J: the cells, the place, the locals, the stack; what the tables say is carried in AW and NW. -/
def AW (U : State) : Prop := ∀ w ∈ lw_tbl, goodWord w = true → ∀ a : Array Value, w.before a U = true
theorem AW.warm {s U : State} (hW : s.WarmedH U.vm) (h : AW s) : AW U := fun w hw hg a => word_at (args := #[]) hW (good_of_word hg) (h w hw hg #[])
def nestF : List (String × Nat × String × String × String × String) := [("UniverseLevels", 244, "UniverseLevels$Text", "numbers", "[I", "UniverseLevels"), ("UniverseLevels", 84, "UniverseLevels$Text", "length", "I", "UniverseLevels"), ("UniverseLevels", 96, "UniverseLevels$State", "kinds", "[I", "UniverseLevels"), ("UniverseLevels$Round", 47, "UniverseLevels$State", "from", "[I", "UniverseLevels"), ("UniverseLevels$Against", 52, "UniverseLevels$State", "from", "[I", "UniverseLevels"), ("UniverseLevels", 115, "UniverseLevels$State", "from", "[I", "UniverseLevels"), ("UniverseLevels$Round", 50, "UniverseLevels$State", "to", "[I", "UniverseLevels"), ("UniverseLevels$Against", 55, "UniverseLevels$State", "to", "[I", "UniverseLevels"), ("UniverseLevels", 118, "UniverseLevels$State", "to", "[I", "UniverseLevels"), ("UniverseLevels$Against", 59, "UniverseLevels$State", "weight", "[I", "UniverseLevels"), ("UniverseLevels$Round", 66, "UniverseLevels$State", "weight", "[I", "UniverseLevels"), ("UniverseLevels", 121, "UniverseLevels$State", "weight", "[I", "UniverseLevels"), ("UniverseLevels$Lengths", 16, "UniverseLevels$State", "levels", "I", "UniverseLevels"), ("UniverseLevels$Round", 36, "UniverseLevels$State", "levels", "I", "UniverseLevels"), ("UniverseLevels", 224, "UniverseLevels$State", "levels", "I", "UniverseLevels"), ("UniverseLevels$Round", 40, "UniverseLevels$State", "bounds", "I", "UniverseLevels"), ("UniverseLevels$Against", 43, "UniverseLevels$State", "bounds", "I", "UniverseLevels"), ("UniverseLevels", 90, "UniverseLevels$State", "bounds", "I", "UniverseLevels"), ("UniverseLevels$Against", 46, "UniverseLevels$Lengths", "greatest", "[[I", "UniverseLevels"), ("UniverseLevels$Round", 59, "UniverseLevels$Lengths", "greatest", "[[I", "UniverseLevels"), ("UniverseLevels", 134, "UniverseLevels$Lengths", "greatest", "[[I", "UniverseLevels"), ("UniverseLevels", 205, "UniverseLevels$Rows", "levels", "[I", "UniverseLevels"), ("UniverseLevels", 206, "UniverseLevels$Rows", "more", "[I", "UniverseLevels"), ("UniverseLevels", 196, "UniverseLevels$Rows", "size", "I", "UniverseLevels"), ("UniverseLevels", 171, "UniverseLevels$Round", "levels", "[I", "UniverseLevels"), ("UniverseLevels", 165, "UniverseLevels$Round", "size", "I", "UniverseLevels"), ("UniverseLevels", 168, "UniverseLevels$Round", "above", "I", "UniverseLevels")]
def nestM : List (String × Nat × MethodName × String) := [("UniverseLevels", 9, ⟨"UniverseLevels$Text", "<init>", "()V"⟩, "UniverseLevels"), ("UniverseLevels", 18, ⟨"UniverseLevels$State", "<init>", "()V"⟩, "UniverseLevels"), ("UniverseLevels", 32, ⟨"UniverseLevels$Lengths", "<init>", "()V"⟩, "UniverseLevels"), ("UniverseLevels", 43, ⟨"UniverseLevels$Against", "<init>", "()V"⟩, "UniverseLevels"), ("UniverseLevels", 50, ⟨"UniverseLevels$Rows", "<init>", "()V"⟩, "UniverseLevels"), ("UniverseLevels", 60, ⟨"UniverseLevels$Round", "<init>", "()V"⟩, "UniverseLevels"), ("UniverseLevels", 77, ⟨"UniverseLevels$Text", "append", "(I)Z"⟩, "UniverseLevels"), ("UniverseLevels", 238, ⟨"UniverseLevels$Text", "letterAt", "(I)I"⟩, "UniverseLevels"), ("UniverseLevels", 241, ⟨"UniverseLevels$Text", "readItem", "(I)I"⟩, "UniverseLevels"), ("UniverseLevels", 251, ⟨"UniverseLevels$State", "addLevel", "(I)V"⟩, "UniverseLevels"), ("UniverseLevels", 155, ⟨"UniverseLevels$Lengths", "measure", "(LUniverseLevels$State;)V"⟩, "UniverseLevels"), ("UniverseLevels$Lengths", 23, ⟨"UniverseLevels$State", "lengthsFrom", "(II[I)V"⟩, "UniverseLevels"), ("UniverseLevels", 186, ⟨"UniverseLevels$State", "weightTowards", "(II)I"⟩, "UniverseLevels"), ("UniverseLevels", 130, ⟨"UniverseLevels$Lengths", "leads", "(II)Z"⟩, "UniverseLevels"), ("UniverseLevels", 254, ⟨"UniverseLevels$Round", "trace", "(LUniverseLevels$State;LUniverseLevels$Lengths;II)V"⟩, "UniverseLevels"), ("UniverseLevels", 221, ⟨"UniverseLevels$State", "copy", "(LUniverseLevels$State;)V"⟩, "UniverseLevels"), ("UniverseLevels", 258, ⟨"UniverseLevels$State", "take", "(III)V"⟩, "UniverseLevels"), ("UniverseLevels", 87, ⟨"UniverseLevels$Text", "firstFault", "()I"⟩, "UniverseLevels"), ("UniverseLevels", 99, ⟨"UniverseLevels$Lengths", "valueOf", "(I)I"⟩, "UniverseLevels"), ("UniverseLevels", 109, ⟨"UniverseLevels$State", "isFloating", "(I)Z"⟩, "UniverseLevels"), ("UniverseLevels", 262, ⟨"UniverseLevels$State", "lengthsFrom", "(II[I)V"⟩, "UniverseLevels"), ("UniverseLevels", 151, ⟨"UniverseLevels$State", "takeBack", "(I)V"⟩, "UniverseLevels"), ("UniverseLevels", 174, ⟨"UniverseLevels$Lengths", "implies", "(III)Z"⟩, "UniverseLevels"), ("UniverseLevels", 189, ⟨"UniverseLevels$Against", "choose", "(LUniverseLevels$State;LUniverseLevels$Lengths;III)I"⟩, "UniverseLevels"), ("UniverseLevels$Against", 33, ⟨"UniverseLevels$State", "lengthsFrom", "(II[I)V"⟩, "UniverseLevels"), ("UniverseLevels", 193, ⟨"UniverseLevels$Against", "numberOf", "(I)I"⟩, "UniverseLevels"), ("UniverseLevels", 197, ⟨"UniverseLevels$Rows", "add", "(II)V"⟩, "UniverseLevels"), ("UniverseLevels", 201, ⟨"UniverseLevels$Rows", "isShort", "(ILUniverseLevels$Lengths;)Z"⟩, "UniverseLevels"), ("UniverseLevels$Rows", 29, ⟨"UniverseLevels$Lengths", "implies", "(III)Z"⟩, "UniverseLevels"), ("UniverseLevels", 229, ⟨"UniverseLevels$Lengths", "greatestValue", "()I"⟩, "UniverseLevels"), ("UniverseLevels", 235, ⟨"UniverseLevels$Lengths", "pairs", "()I"⟩, "UniverseLevels")]
def NW (U : State) : Prop := (∀ q ∈ nestF, va_Nw (.fieldLinkNest q.1 q.2.1 q.2.2.1 q.2.2.2.1 q.2.2.2.2.1 q.2.2.2.2.2) U) ∧ ∀ q ∈ nestM, va_Nw (.methodLinkNest q.1 q.2.1 q.2.2.1 q.2.2.2) U
theorem NW.warm {s U : State} (hW : s.WarmedH U.vm) (h : NW s) : NW U := ⟨fun q hq => va_Nw.warmF hW (h.1 q hq), fun q hq => va_Nw.warmM hW (h.2 q hq)⟩
def aS (ws : va_W) : Nat → Prop := fun q => ∃ (k : Nat) (e : va_E), ws[k]? = some (q, e)
def jK (D : va_G) (tys : List (ClassId × FieldType)) (U : State) : Prop := va_K D vwCl tys U ∧ AW U ∧ NW U
theorem jK.warm {D : va_G} {tys : List (ClassId × FieldType)} {s U : State} (hW : s.WarmedH U.vm) (h : jK D tys s) : jK D tys U := ⟨va_K.moved hW.alike h.1, h.2.1.warm hW, h.2.2.warm hW⟩
def cPre (D : va_G) (tys : List (ClassId × FieldType)) (av : List Value) (ws : va_W) : Array Value → State → Prop := fun v U => v = av.toArray ∧ va_P D vwCl ws U.heap ∧ jK D tys U ∧ va_D (fun _ => True) ws
def cPost (D : va_G) (A : Nat → Prop) (ro : Option Int32) (wf : va_W) : Array Value → State → Outcome → State → Prop := fun _ st oc t => oc = .returned (ro.map Value.int) ∧ va_P D vwCl wf t.heap ∧ st.heap.size ≤ t.heap.size ∧ ∀ q : Nat, q < st.heap.size → ¬ A q → t.heap[q]? = st.heap[q]?
def MJ (l : Launch) (y : MethodName) (cc : ByteArray) (nL : Nat) (rt : Option FieldType) (R : Room) (D : va_G) (tys : List (ClassId × FieldType)) (av : List Value) (ws : va_W) (ro : Option Int32) (wf : va_W) : Prop := Met l y [Cond.code y cc nL rt] R (cPre D tys av ws) (cPost D (aS ws) ro wf) 0 0 (aS ws)
abbrev jT : Type := va_W → Nat → List (Nat × Value) → List Value → Prop
def jJ (l : Launch) (cc : ByteArray) (nL : Nat) (D : va_G) (tys : List (ClassId × FieldType)) (own : String) (R : Room) (rt : Option FieldType) (A : Nat → Prop) (ro : Option Int32) (wf : va_W) (J : jT) : Prop :=
  ∃ (p : Program) (e : Env) (s : State) (m : MethodId) (args : Array Value) (below : List Frame) (meth : Method) (c : Code), p.tables.exec = Jvm.exec ∧ c.code = cc ∧ c.maxLocals = nL ∧ s.vm.findClass own = some m.cls ∧ jK D tys s ∧ meth.sig.returnType = rt ∧ meth.locks = false ∧
    J = fun ws pc lv st => ∀ (H : Heap) (locs : List Loc) (ls : Array Slot), va_P D vwCl ws H → va_D A ws → va_S A s.heap H locs → lv_has ls nL lv → W p l e R s m args below meth c H locs 0 0 (MQ below (cPost D A ro wf) args s 0 0 A) (F0 m pc ls st)
theorem mj_of {l : Launch} {y : MethodName} {cc : ByteArray} {nL : Nat} {rt : Option FieldType} {R : Room} {D : va_G} {tys : List (ClassId × FieldType)} {av : List Value} {ws : va_W} {ro : Option Int32} {wf : va_W} {own : String}
    (hy : plainName y.cls = true) (ho : y.cls = own) (hav : (lg_sl av).length ≤ nL) (body : ∀ J : jT, jJ l cc nL D tys own R rt (aS ws) ro wf J → J ws 0 (lv_args 0 av) []) : MJ l y cc nL rt R D tys av ws ro wf := by
  refine Met.ofW (cc := cc) (maxL := nL) (ret := rt) hy rfl ?_
  intro p e s m args below meth c s₁ B hml hv
  obtain ⟨rfl, hP, hK, hD0⟩ := hv
  have hl := lv_entry av (n := nL) hav
  rw [lg_entry_eq]
  have hown : s.vm.findClass own = some m.cls := by rw [← ho]; exact findClass_of_methodNamed B.named
  exact body _ ⟨p, e, s, m, av.toArray, below, meth, c, B.exec, B.bytes, hml, hown, hK, B.returns, B.notSynchronized, rfl⟩ s.heap [] _ hP ⟨hD0.1, fun k q hk => ⟨k, q.2, hk⟩⟩ va_S.rf hl
theorem ob {α β : Type} {x : Option α} {k : α → Option β} {r : β} (h : x.bind k = some r) : ∃ a, x = some a ∧ k a = some r := by
  cases x with
  | none => cases h
  | some a => exact ⟨a, rfl, h⟩
theorem ip {α : Type} {c : Prop} [Decidable c] {a b r : α} (hc : c) (h : (if c then a else b) = r) : a = r := by rw [if_pos hc] at h; exact h
theorem iq {α : Type} {c : Prop} [Decidable c] {a b r : α} (hc : ¬ c) (h : (if c then a else b) = r) : b = r := by rw [if_neg hc] at h; exact h
def rd (f : Nat → Int32) (n : Nat) (i : Int32) : Option Int32 := if i < 0 ∨ n ≤ i.toNatClampNeg then none else some (f i.toNatClampNeg)
def wr (f : Nat → Int32) (n : Nat) (i x : Int32) : Option (Nat → Int32) := if i < 0 ∨ n ≤ i.toNatClampNeg then none else some (upd f i.toNatClampNeg x)
def ix (n : Nat) (i : Int32) : Option Nat := if i < 0 ∨ n ≤ i.toNatClampNeg then none else some i.toNatClampNeg
theorem rd_some {f : Nat → Int32} {n : Nat} {i x : Int32} (h : rd f n i = some x) : vp_in i n ∧ f i.toNatClampNeg = x := by
  unfold rd at h
  by_cases hc : i < 0 ∨ n ≤ i.toNatClampNeg
  · rw [if_pos hc] at h; cases h
  · rw [if_neg hc] at h; exact ⟨hc, Option.some.inj h⟩
theorem wr_some {f : Nat → Int32} {n : Nat} {i x : Int32} {g : Nat → Int32} (h : wr f n i x = some g) : vp_in i n ∧ upd f i.toNatClampNeg x = g := by
  unfold wr at h
  by_cases hc : i < 0 ∨ n ≤ i.toNatClampNeg
  · rw [if_pos hc] at h; cases h
  · rw [if_neg hc] at h; exact ⟨hc, Option.some.inj h⟩
theorem ix_some {n : Nat} {i : Int32} {k : Nat} (h : ix n i = some k) : vp_in i n ∧ i.toNatClampNeg = k ∧ k < n := by
  unfold ix at h
  by_cases hc : i < 0 ∨ n ≤ i.toNatClampNeg
  · rw [if_pos hc] at h; cases h
  · rw [if_neg hc] at h; exact ⟨hc, Option.some.inj h, by rw [← Option.some.inj h]; exact Nat.not_le.mp fun q => hc (Or.inr q)⟩
section JR
variable {l : Launch} {cc : ByteArray} {nL : Nat} {D : va_G} {tys : List (ClassId × FieldType)} {own : String} {R : Room} {rt : Option FieldType} {A : Nat → Prop} {ro : Option Int32} {wf : va_W} {J : jT} {ws : va_W} {pc : Nat} {lv : List (Nat × Value)} {st : List Value}
theorem jj_iconst (hJ : jJ l cc nL D tys own R rt A ro wf J) {n : Int} {v : Int32} (hd : decode cc pc = .ok (.iconst n, 1)) (hv : Int32.ofInt n = v) (kk : J ws (pc + 1) lv (.int v :: st)) : J ws pc lv (st) := by
  obtain ⟨p, e, s, m, args, below, meth, c, hx, hb, hml, ho, hK, hr, hlk, rfl⟩ := hJ
  intro H locs ls hP hD hS hl
  exact lv_iconst hx hb hd hv (kk H locs ls hP hD hS hl)
theorem jj_bipush (hJ : jJ l cc nL D tys own R rt A ro wf J) {n : Int} {v : Int32} (hd : decode cc pc = .ok (.bipush n, 2)) (hv : (Int8.ofInt n).toInt32 = v) (kk : J ws (pc + 2) lv (.int v :: st)) : J ws pc lv (st) := by
  obtain ⟨p, e, s, m, args, below, meth, c, hx, hb, hml, ho, hK, hr, hlk, rfl⟩ := hJ
  intro H locs ls hP hD hS hl
  exact lv_bipush hx hb hd hv (kk H locs ls hP hD hS hl)
theorem jj_sipush (hJ : jJ l cc nL D tys own R rt A ro wf J) {n : Int} {v : Int32} (hd : decode cc pc = .ok (.sipush n, 3)) (hv : (Int16.ofInt n).toInt32 = v) (kk : J ws (pc + 3) lv (.int v :: st)) : J ws pc lv (st) := by
  obtain ⟨p, e, s, m, args, below, meth, c, hx, hb, hml, ho, hK, hr, hlk, rfl⟩ := hJ
  intro H locs ls hP hD hS hl
  exact lv_sipush hx hb hd hv (kk H locs ls hP hD hS hl)
theorem jj_lconst (hJ : jJ l cc nL D tys own R rt A ro wf J) {n : Fin 2} {v : Int64} (hd : decode cc pc = .ok (.lconst n, 1)) (hv : Int64.ofNat (n : Nat) = v) (kk : J ws (pc + 1) lv (.long v :: st)) : J ws pc lv (st) := by
  obtain ⟨p, e, s, m, args, below, meth, c, hx, hb, hml, ho, hK, hr, hlk, rfl⟩ := hJ
  intro H locs ls hP hD hS hl
  exact lv_lconst hx hb hd hv (kk H locs ls hP hD hS hl)
theorem jj_ldc (hJ : jJ l cc nL D tys own R rt A ro wf J) {index : Nat} {v : Int32} (hd : decode cc pc = .ok (.ldc index, 2)) (hw : Cond.constant own index v ∈ lw_tbl) (kk : J ws (pc + 2) lv (.int v :: st)) : J ws pc lv (st) := by
  obtain ⟨p, e, s, m, args, below, meth, c, hx, hb, hml, ho, hK, hr, hlk, rfl⟩ := hJ
  intro H locs ls hP hD hS hl
  exact lv_ldc hx hb ho (hK.2.1 _ hw rfl args) hd (kk H locs ls hP hD hS hl)
theorem jj_ldc2 (hJ : jJ l cc nL D tys own R rt A ro wf J) {index : Nat} {v : Int64} (hd : decode cc pc = .ok (.ldc2_w index, 3)) (hw : Cond.constantLong own index v ∈ lw_tbl) (kk : J ws (pc + 3) lv (.long v :: st)) : J ws pc lv (st) := by
  obtain ⟨p, e, s, m, args, below, meth, c, hx, hb, hml, ho, hK, hr, hlk, rfl⟩ := hJ
  intro H locs ls hP hD hS hl
  exact lv_ldc2 hx hb ho (hK.2.1 _ hw rfl args) hd (kk H locs ls hP hD hS hl)
theorem jj_iload_n (hJ : jJ l cc nL D tys own R rt A ro wf J) {i : Nat} {k : Fin 4} {x : Int32} (hd : decode cc pc = .ok (.iload_n k, 1)) (j : Nat) (hj : lv[j]? = some (i, .int x)) (hi : (k : Nat) = i) (kk : J ws (pc + 1) lv (.int x :: st)) : J ws pc lv (st) := by
  obtain ⟨p, e, s, m, args, below, meth, c, hx, hb, hml, ho, hK, hr, hlk, rfl⟩ := hJ
  intro H locs ls hP hD hS hl
  exact lv_iload_n hx hb hd hi (lv_at hl j hj) (kk H locs ls hP hD hS hl)
theorem jj_iload (hJ : jJ l cc nL D tys own R rt A ro wf J) {i : Nat} {x : Int32} (hd : decode cc pc = .ok (.iload i, 2)) (j : Nat) (hj : lv[j]? = some (i, .int x)) (kk : J ws (pc + 2) lv (.int x :: st)) : J ws pc lv (st) := by
  obtain ⟨p, e, s, m, args, below, meth, c, hx, hb, hml, ho, hK, hr, hlk, rfl⟩ := hJ
  intro H locs ls hP hD hS hl
  exact lv_iload hx hb hd (lv_at hl j hj) (kk H locs ls hP hD hS hl)
theorem jj_lload_n (hJ : jJ l cc nL D tys own R rt A ro wf J) {i : Nat} {k : Fin 4} {x : Int64} (hd : decode cc pc = .ok (.lload_n k, 1)) (j : Nat) (hj : lv[j]? = some (i, .long x)) (hi : (k : Nat) = i) (kk : J ws (pc + 1) lv (.long x :: st)) : J ws pc lv (st) := by
  obtain ⟨p, e, s, m, args, below, meth, c, hx, hb, hml, ho, hK, hr, hlk, rfl⟩ := hJ
  intro H locs ls hP hD hS hl
  exact lv_lload_n hx hb hd hi (lv_at hl j hj) (kk H locs ls hP hD hS hl)
theorem jj_lload (hJ : jJ l cc nL D tys own R rt A ro wf J) {i : Nat} {x : Int64} (hd : decode cc pc = .ok (.lload i, 2)) (j : Nat) (hj : lv[j]? = some (i, .long x)) (kk : J ws (pc + 2) lv (.long x :: st)) : J ws pc lv (st) := by
  obtain ⟨p, e, s, m, args, below, meth, c, hx, hb, hml, ho, hK, hr, hlk, rfl⟩ := hJ
  intro H locs ls hP hD hS hl
  exact lv_lload hx hb hd (lv_at hl j hj) (kk H locs ls hP hD hS hl)
theorem jj_aload_n (hJ : jJ l cc nL D tys own R rt A ro wf J) {i : Nat} {k : Fin 4} {x : Nat} (hd : decode cc pc = .ok (.aload_n k, 1)) (j : Nat) (hj : lv[j]? = some (i, .ref x)) (hi : (k : Nat) = i) (kk : J ws (pc + 1) lv (.ref x :: st)) : J ws pc lv (st) := by
  obtain ⟨p, e, s, m, args, below, meth, c, hx, hb, hml, ho, hK, hr, hlk, rfl⟩ := hJ
  intro H locs ls hP hD hS hl
  exact lv_aload_n hx hb hd hi (lv_at hl j hj) (kk H locs ls hP hD hS hl)
theorem jj_aload (hJ : jJ l cc nL D tys own R rt A ro wf J) {i : Nat} {x : Nat} (hd : decode cc pc = .ok (.aload i, 2)) (j : Nat) (hj : lv[j]? = some (i, .ref x)) (kk : J ws (pc + 2) lv (.ref x :: st)) : J ws pc lv (st) := by
  obtain ⟨p, e, s, m, args, below, meth, c, hx, hb, hml, ho, hK, hr, hlk, rfl⟩ := hJ
  intro H locs ls hP hD hS hl
  exact lv_aload hx hb hd (lv_at hl j hj) (kk H locs ls hP hD hS hl)
theorem jj_istore_n (hJ : jJ l cc nL D tys own R rt A ro wf J) {i : Nat} {k : Fin 4} {x : Int32} {lv' : List (Nat × Value)} (hd : decode cc pc = .ok (.istore_n k, 1)) (hi : (k : Nat) = i) (hn : i < nL) (hl9 : (i, Value.int x) :: lv.filter (fun q => !(q.1 == i) && !(q.1 + 1 == i && q.2.category == 2)) = lv') (kk : J ws (pc + 1) lv' st) : J ws pc lv (.int x :: st) := by
  obtain ⟨p, e, s, m, args, below, meth, c, hx, hb, hml, ho, hK, hr, hlk, rfl⟩ := hJ
  intro H locs ls hP hD hS hl
  exact lv_istore_n hx hb hd hi hl hn hl9 (fun ls hl => kk H locs ls hP hD hS hl)
theorem jj_istore (hJ : jJ l cc nL D tys own R rt A ro wf J) {i : Nat}  {x : Int32} {lv' : List (Nat × Value)} (hd : decode cc pc = .ok (.istore i, 2))  (hn : i < nL) (hl9 : (i, Value.int x) :: lv.filter (fun q => !(q.1 == i) && !(q.1 + 1 == i && q.2.category == 2)) = lv') (kk : J ws (pc + 2) lv' st) : J ws pc lv (.int x :: st) := by
  obtain ⟨p, e, s, m, args, below, meth, c, hx, hb, hml, ho, hK, hr, hlk, rfl⟩ := hJ
  intro H locs ls hP hD hS hl
  exact lv_istore hx hb hd hl hn hl9 (fun ls hl => kk H locs ls hP hD hS hl)
theorem jj_astore_n (hJ : jJ l cc nL D tys own R rt A ro wf J) {i : Nat} {k : Fin 4} {x : Nat} {lv' : List (Nat × Value)} (hd : decode cc pc = .ok (.astore_n k, 1)) (hi : (k : Nat) = i) (hn : i < nL) (hl9 : (i, Value.ref x) :: lv.filter (fun q => !(q.1 == i) && !(q.1 + 1 == i && q.2.category == 2)) = lv') (kk : J ws (pc + 1) lv' st) : J ws pc lv (.ref x :: st) := by
  obtain ⟨p, e, s, m, args, below, meth, c, hx, hb, hml, ho, hK, hr, hlk, rfl⟩ := hJ
  intro H locs ls hP hD hS hl
  exact lv_astore_n hx hb hd hi hl hn hl9 (fun ls hl => kk H locs ls hP hD hS hl)
theorem jj_astore (hJ : jJ l cc nL D tys own R rt A ro wf J) {i : Nat}  {x : Nat} {lv' : List (Nat × Value)} (hd : decode cc pc = .ok (.astore i, 2))  (hn : i < nL) (hl9 : (i, Value.ref x) :: lv.filter (fun q => !(q.1 == i) && !(q.1 + 1 == i && q.2.category == 2)) = lv') (kk : J ws (pc + 2) lv' st) : J ws pc lv (.ref x :: st) := by
  obtain ⟨p, e, s, m, args, below, meth, c, hx, hb, hml, ho, hK, hr, hlk, rfl⟩ := hJ
  intro H locs ls hP hD hS hl
  exact lv_astore hx hb hd hl hn hl9 (fun ls hl => kk H locs ls hP hD hS hl)
theorem jj_iinc (hJ : jJ l cc nL D tys own R rt A ro wf J) {i : Nat} {n : Int} {x v : Int32} {lv' : List (Nat × Value)} (hd : decode cc pc = .ok (.iinc i n, 3)) (j : Nat) (hj : lv[j]? = some (i, .int x)) (hv : x + Int32.ofInt n = v) (hn : i < nL) (hl9 : (i, Value.int v) :: lv.filter (fun q => !(q.1 == i) && !(q.1 + 1 == i && q.2.category == 2)) = lv') (kk : J ws (pc + 3) lv' st) : J ws pc lv st := by
  obtain ⟨p, e, s, m, args, below, meth, c, hx, hb, hml, ho, hK, hr, hlk, rfl⟩ := hJ
  intro H locs ls hP hD hS hl
  exact lv_iinc hx hb hd hl hj hv hn hl9 (fun ls hl => kk H locs ls hP hD hS hl)
theorem jj_iadd (hJ : jJ l cc nL D tys own R rt A ro wf J) {x y : Int32} (hd : decode cc pc = .ok (.iadd, 1)) (kk : J ws (pc + 1) lv (.int (x + y) :: st)) : J ws pc lv (.int y :: .int x :: st) := by
  obtain ⟨p, e, s, m, args, below, meth, c, hx, hb, hml, ho, hK, hr, hlk, rfl⟩ := hJ
  intro H locs ls hP hD hS hl
  exact lv_iadd hx hb hd (kk H locs ls hP hD hS hl)
theorem jj_isub (hJ : jJ l cc nL D tys own R rt A ro wf J) {x y : Int32} (hd : decode cc pc = .ok (.isub, 1)) (kk : J ws (pc + 1) lv (.int (x - y) :: st)) : J ws pc lv (.int y :: .int x :: st) := by
  obtain ⟨p, e, s, m, args, below, meth, c, hx, hb, hml, ho, hK, hr, hlk, rfl⟩ := hJ
  intro H locs ls hP hD hS hl
  exact lv_isub hx hb hd (kk H locs ls hP hD hS hl)
theorem jj_imul (hJ : jJ l cc nL D tys own R rt A ro wf J) {x y : Int32} (hd : decode cc pc = .ok (.imul, 1)) (kk : J ws (pc + 1) lv (.int (x * y) :: st)) : J ws pc lv (.int y :: .int x :: st) := by
  obtain ⟨p, e, s, m, args, below, meth, c, hx, hb, hml, ho, hK, hr, hlk, rfl⟩ := hJ
  intro H locs ls hP hD hS hl
  exact lv_imul hx hb hd (kk H locs ls hP hD hS hl)
theorem jj_iand (hJ : jJ l cc nL D tys own R rt A ro wf J) {x y : Int32} (hd : decode cc pc = .ok (.iand, 1)) (kk : J ws (pc + 1) lv (.int (x &&& y) :: st)) : J ws pc lv (.int y :: .int x :: st) := by
  obtain ⟨p, e, s, m, args, below, meth, c, hx, hb, hml, ho, hK, hr, hlk, rfl⟩ := hJ
  intro H locs ls hP hD hS hl
  exact lv_iand hx hb hd (kk H locs ls hP hD hS hl)
theorem jj_ior (hJ : jJ l cc nL D tys own R rt A ro wf J) {x y : Int32} (hd : decode cc pc = .ok (.ior, 1)) (kk : J ws (pc + 1) lv (.int (x ||| y) :: st)) : J ws pc lv (.int y :: .int x :: st) := by
  obtain ⟨p, e, s, m, args, below, meth, c, hx, hb, hml, ho, hK, hr, hlk, rfl⟩ := hJ
  intro H locs ls hP hD hS hl
  exact lv_ior hx hb hd (kk H locs ls hP hD hS hl)
theorem jj_ixor (hJ : jJ l cc nL D tys own R rt A ro wf J) {x y : Int32} (hd : decode cc pc = .ok (.ixor, 1)) (kk : J ws (pc + 1) lv (.int (x ^^^ y) :: st)) : J ws pc lv (.int y :: .int x :: st) := by
  obtain ⟨p, e, s, m, args, below, meth, c, hx, hb, hml, ho, hK, hr, hlk, rfl⟩ := hJ
  intro H locs ls hP hD hS hl
  exact lv_ixor hx hb hd (kk H locs ls hP hD hS hl)
theorem jj_ishl (hJ : jJ l cc nL D tys own R rt A ro wf J) {x y : Int32} (hd : decode cc pc = .ok (.ishl, 1)) (kk : J ws (pc + 1) lv (.int (x <<< (y &&& 31)) :: st)) : J ws pc lv (.int y :: .int x :: st) := by
  obtain ⟨p, e, s, m, args, below, meth, c, hx, hb, hml, ho, hK, hr, hlk, rfl⟩ := hJ
  intro H locs ls hP hD hS hl
  exact lv_ishl hx hb hd (kk H locs ls hP hD hS hl)
theorem jj_ishr (hJ : jJ l cc nL D tys own R rt A ro wf J) {x y : Int32} (hd : decode cc pc = .ok (.ishr, 1)) (kk : J ws (pc + 1) lv (.int (x >>> (y &&& 31)) :: st)) : J ws pc lv (.int y :: .int x :: st) := by
  obtain ⟨p, e, s, m, args, below, meth, c, hx, hb, hml, ho, hK, hr, hlk, rfl⟩ := hJ
  intro H locs ls hP hD hS hl
  exact lv_ishr hx hb hd (kk H locs ls hP hD hS hl)
theorem jj_irem (hJ : jJ l cc nL D tys own R rt A ro wf J) {x y : Int32} (hd : decode cc pc = .ok (.irem, 1)) (hne : ¬ y = 0) (kk : J ws (pc + 1) lv (.int (x - x / y * y) :: st)) : J ws pc lv (.int y :: .int x :: st) := by
  obtain ⟨p, e, s, m, args, below, meth, c, hx, hb, hml, ho, hK, hr, hlk, rfl⟩ := hJ
  intro H locs ls hP hD hS hl
  exact lv_irem hx hb hd hne (kk H locs ls hP hD hS hl)
theorem jj_ineg (hJ : jJ l cc nL D tys own R rt A ro wf J) {x : Int32} (hd : decode cc pc = .ok (.ineg, 1)) (kk : J ws (pc + 1) lv (.int (-x) :: st)) : J ws pc lv (.int x :: st) := by
  obtain ⟨p, e, s, m, args, below, meth, c, hx, hb, hml, ho, hK, hr, hlk, rfl⟩ := hJ
  intro H locs ls hP hD hS hl
  exact lv_ineg hx hb hd (kk H locs ls hP hD hS hl)
theorem jj_i2l (hJ : jJ l cc nL D tys own R rt A ro wf J) {x : Int32} (hd : decode cc pc = .ok (.i2l, 1)) (kk : J ws (pc + 1) lv (.long x.toInt64 :: st)) : J ws pc lv (.int x :: st) := by
  obtain ⟨p, e, s, m, args, below, meth, c, hx, hb, hml, ho, hK, hr, hlk, rfl⟩ := hJ
  intro H locs ls hP hD hS hl
  exact lv_i2l hx hb hd rfl (kk H locs ls hP hD hS hl)
theorem jj_lcmp (hJ : jJ l cc nL D tys own R rt A ro wf J) {x y : Int64} (hd : decode cc pc = .ok (.lcmp, 1)) (kk : J ws (pc + 1) lv (.int (lg_cmp x y) :: st)) : J ws pc lv (.long y :: .long x :: st) := by
  obtain ⟨p, e, s, m, args, below, meth, c, hx, hb, hml, ho, hK, hr, hlk, rfl⟩ := hJ
  intro H locs ls hP hD hS hl
  exact W.lcmp hx hb hd (kk H locs ls hP hD hS hl)
theorem jj_dup (hJ : jJ l cc nL D tys own R rt A ro wf J) {va : Value} (hd : decode cc pc = .ok (.dup, 1)) (h1 : va.category = 1) (kk : J ws (pc + 1) lv (va :: va :: st)) : J ws pc lv (va :: st) := by
  obtain ⟨p, e, s, m, args, below, meth, c, hx, hb, hml, ho, hK, hr, hlk, rfl⟩ := hJ
  intro H locs ls hP hD hS hl
  exact lv_dup hx hb hd h1 (kk H locs ls hP hD hS hl)
theorem jj_pop (hJ : jJ l cc nL D tys own R rt A ro wf J) {va : Value} (hd : decode cc pc = .ok (.pop, 1)) (h1 : va.category = 1) (kk : J ws (pc + 1) lv (st)) : J ws pc lv (va :: st) := by
  obtain ⟨p, e, s, m, args, below, meth, c, hx, hb, hml, ho, hK, hr, hlk, rfl⟩ := hJ
  intro H locs ls hP hD hS hl
  exact lv_pop hx hb hd h1 (kk H locs ls hP hD hS hl)
theorem jj_dup2 (hJ : jJ l cc nL D tys own R rt A ro wf J) {va vb : Value} (hd : decode cc pc = .ok (.dup2, 1)) (h1 : va.category = 1) (h2 : vb.category = 1) (kk : J ws (pc + 1) lv (va :: vb :: va :: vb :: st)) : J ws pc lv (va :: vb :: st) := by
  obtain ⟨p, e, s, m, args, below, meth, c, hx, hb, hml, ho, hK, hr, hlk, rfl⟩ := hJ
  intro H locs ls hP hD hS hl
  exact lv_dup2_11 hx hb hd h1 h2 (kk H locs ls hP hD hS hl)
theorem jj_if_eq (hJ : jJ l cc nL D tys own R rt A ro wf J) {x : Int32} {off : Int} (tgt : Nat) (hd : decode cc pc = .ok (.ifCond .eq off, 3)) (ht : (pc : Int) + off = (tgt : Int)) (kt : x = 0 → J ws tgt lv st) (kf : ¬ x = 0 → J ws (pc + 3) lv st) : J ws pc lv (.int x :: st) := by
  obtain ⟨p, e, s, m, args, below, meth, c, hx, hb, hml, ho, hK, hr, hlk, rfl⟩ := hJ
  intro H locs ls hP hD hS hl
  exact lv_if_eq hx hb hd ht (fun h => kt h H locs ls hP hD hS hl) (fun h => kf h H locs ls hP hD hS hl)
theorem jj_if_ne (hJ : jJ l cc nL D tys own R rt A ro wf J) {x : Int32} {off : Int} (tgt : Nat) (hd : decode cc pc = .ok (.ifCond .ne off, 3)) (ht : (pc : Int) + off = (tgt : Int)) (kt : ¬ x = 0 → J ws tgt lv st) (kf : x = 0 → J ws (pc + 3) lv st) : J ws pc lv (.int x :: st) := by
  obtain ⟨p, e, s, m, args, below, meth, c, hx, hb, hml, ho, hK, hr, hlk, rfl⟩ := hJ
  intro H locs ls hP hD hS hl
  exact lv_if_ne hx hb hd ht (fun h => kt h H locs ls hP hD hS hl) (fun h => kf h H locs ls hP hD hS hl)
theorem jj_if_lt (hJ : jJ l cc nL D tys own R rt A ro wf J) {x : Int32} {off : Int} (tgt : Nat) (hd : decode cc pc = .ok (.ifCond .lt off, 3)) (ht : (pc : Int) + off = (tgt : Int)) (kt : x < 0 → J ws tgt lv st) (kf : ¬ x < 0 → J ws (pc + 3) lv st) : J ws pc lv (.int x :: st) := by
  obtain ⟨p, e, s, m, args, below, meth, c, hx, hb, hml, ho, hK, hr, hlk, rfl⟩ := hJ
  intro H locs ls hP hD hS hl
  exact lv_if_lt hx hb hd ht (fun h => kt h H locs ls hP hD hS hl) (fun h => kf h H locs ls hP hD hS hl)
theorem jj_if_ge (hJ : jJ l cc nL D tys own R rt A ro wf J) {x : Int32} {off : Int} (tgt : Nat) (hd : decode cc pc = .ok (.ifCond .ge off, 3)) (ht : (pc : Int) + off = (tgt : Int)) (kt : 0 ≤ x → J ws tgt lv st) (kf : ¬ 0 ≤ x → J ws (pc + 3) lv st) : J ws pc lv (.int x :: st) := by
  obtain ⟨p, e, s, m, args, below, meth, c, hx, hb, hml, ho, hK, hr, hlk, rfl⟩ := hJ
  intro H locs ls hP hD hS hl
  exact lv_if_ge hx hb hd ht (fun h => kt h H locs ls hP hD hS hl) (fun h => kf h H locs ls hP hD hS hl)
theorem jj_if_gt (hJ : jJ l cc nL D tys own R rt A ro wf J) {x : Int32} {off : Int} (tgt : Nat) (hd : decode cc pc = .ok (.ifCond .gt off, 3)) (ht : (pc : Int) + off = (tgt : Int)) (kt : 0 < x → J ws tgt lv st) (kf : ¬ 0 < x → J ws (pc + 3) lv st) : J ws pc lv (.int x :: st) := by
  obtain ⟨p, e, s, m, args, below, meth, c, hx, hb, hml, ho, hK, hr, hlk, rfl⟩ := hJ
  intro H locs ls hP hD hS hl
  exact lv_if_gt hx hb hd ht (fun h => kt h H locs ls hP hD hS hl) (fun h => kf h H locs ls hP hD hS hl)
theorem jj_if_le (hJ : jJ l cc nL D tys own R rt A ro wf J) {x : Int32} {off : Int} (tgt : Nat) (hd : decode cc pc = .ok (.ifCond .le off, 3)) (ht : (pc : Int) + off = (tgt : Int)) (kt : x ≤ 0 → J ws tgt lv st) (kf : ¬ x ≤ 0 → J ws (pc + 3) lv st) : J ws pc lv (.int x :: st) := by
  obtain ⟨p, e, s, m, args, below, meth, c, hx, hb, hml, ho, hK, hr, hlk, rfl⟩ := hJ
  intro H locs ls hP hD hS hl
  exact lv_if_le hx hb hd ht (fun h => kt h H locs ls hP hD hS hl) (fun h => kf h H locs ls hP hD hS hl)
theorem jj_icmp_eq (hJ : jJ l cc nL D tys own R rt A ro wf J) {x y : Int32} {off : Int} (tgt : Nat) (hd : decode cc pc = .ok (.if_icmp .eq off, 3)) (ht : (pc : Int) + off = (tgt : Int)) (kt : x = y → J ws tgt lv st) (kf : ¬ x = y → J ws (pc + 3) lv st) : J ws pc lv (.int y :: .int x :: st) := by
  obtain ⟨p, e, s, m, args, below, meth, c, hx, hb, hml, ho, hK, hr, hlk, rfl⟩ := hJ
  intro H locs ls hP hD hS hl
  exact lv_icmp_eq hx hb hd ht (fun h => kt h H locs ls hP hD hS hl) (fun h => kf h H locs ls hP hD hS hl)
theorem jj_icmp_ne (hJ : jJ l cc nL D tys own R rt A ro wf J) {x y : Int32} {off : Int} (tgt : Nat) (hd : decode cc pc = .ok (.if_icmp .ne off, 3)) (ht : (pc : Int) + off = (tgt : Int)) (kt : ¬ x = y → J ws tgt lv st) (kf : x = y → J ws (pc + 3) lv st) : J ws pc lv (.int y :: .int x :: st) := by
  obtain ⟨p, e, s, m, args, below, meth, c, hx, hb, hml, ho, hK, hr, hlk, rfl⟩ := hJ
  intro H locs ls hP hD hS hl
  exact lv_icmp_ne hx hb hd ht (fun h => kt h H locs ls hP hD hS hl) (fun h => kf h H locs ls hP hD hS hl)
theorem jj_icmp_lt (hJ : jJ l cc nL D tys own R rt A ro wf J) {x y : Int32} {off : Int} (tgt : Nat) (hd : decode cc pc = .ok (.if_icmp .lt off, 3)) (ht : (pc : Int) + off = (tgt : Int)) (kt : x < y → J ws tgt lv st) (kf : ¬ x < y → J ws (pc + 3) lv st) : J ws pc lv (.int y :: .int x :: st) := by
  obtain ⟨p, e, s, m, args, below, meth, c, hx, hb, hml, ho, hK, hr, hlk, rfl⟩ := hJ
  intro H locs ls hP hD hS hl
  exact lv_icmp_lt hx hb hd ht (fun h => kt h H locs ls hP hD hS hl) (fun h => kf h H locs ls hP hD hS hl)
theorem jj_icmp_ge (hJ : jJ l cc nL D tys own R rt A ro wf J) {x y : Int32} {off : Int} (tgt : Nat) (hd : decode cc pc = .ok (.if_icmp .ge off, 3)) (ht : (pc : Int) + off = (tgt : Int)) (kt : y ≤ x → J ws tgt lv st) (kf : ¬ y ≤ x → J ws (pc + 3) lv st) : J ws pc lv (.int y :: .int x :: st) := by
  obtain ⟨p, e, s, m, args, below, meth, c, hx, hb, hml, ho, hK, hr, hlk, rfl⟩ := hJ
  intro H locs ls hP hD hS hl
  exact lv_icmp_ge hx hb hd ht (fun h => kt h H locs ls hP hD hS hl) (fun h => kf h H locs ls hP hD hS hl)
theorem jj_icmp_gt (hJ : jJ l cc nL D tys own R rt A ro wf J) {x y : Int32} {off : Int} (tgt : Nat) (hd : decode cc pc = .ok (.if_icmp .gt off, 3)) (ht : (pc : Int) + off = (tgt : Int)) (kt : y < x → J ws tgt lv st) (kf : ¬ y < x → J ws (pc + 3) lv st) : J ws pc lv (.int y :: .int x :: st) := by
  obtain ⟨p, e, s, m, args, below, meth, c, hx, hb, hml, ho, hK, hr, hlk, rfl⟩ := hJ
  intro H locs ls hP hD hS hl
  exact lv_icmp_gt hx hb hd ht (fun h => kt h H locs ls hP hD hS hl) (fun h => kf h H locs ls hP hD hS hl)
theorem jj_icmp_le (hJ : jJ l cc nL D tys own R rt A ro wf J) {x y : Int32} {off : Int} (tgt : Nat) (hd : decode cc pc = .ok (.if_icmp .le off, 3)) (ht : (pc : Int) + off = (tgt : Int)) (kt : x ≤ y → J ws tgt lv st) (kf : ¬ x ≤ y → J ws (pc + 3) lv st) : J ws pc lv (.int y :: .int x :: st) := by
  obtain ⟨p, e, s, m, args, below, meth, c, hx, hb, hml, ho, hK, hr, hlk, rfl⟩ := hJ
  intro H locs ls hP hD hS hl
  exact lv_icmp_le hx hb hd ht (fun h => kt h H locs ls hP hD hS hl) (fun h => kf h H locs ls hP hD hS hl)
theorem jj_goto (hJ : jJ l cc nL D tys own R rt A ro wf J) {off : Int} (tgt : Nat) (hd : decode cc pc = .ok (.goto off, 3)) (ht : (pc : Int) + off = (tgt : Int)) (kk : J ws tgt lv st) : J ws pc lv st := by
  obtain ⟨p, e, s, m, args, below, meth, c, hx, hb, hml, ho, hK, hr, hlk, rfl⟩ := hJ
  intro H locs ls hP hD hS hl
  exact lv_goto hx hb hd ht (kk H locs ls hP hD hS hl)
theorem jj_tin (hJ : jJ l cc nL D tys own R rt A ro wf J) {dflt lo hi : Int} {offs : Array Int} {len : Nat} {x : Int32} {off : Int} (tgt : Nat) (hd : decode cc pc = .ok (.tableswitch dflt lo hi offs, len)) (h1 : ¬ x.toInt < lo) (h2 : ¬ hi < x.toInt) (h3 : offs[(x.toInt - lo).toNat]? = some off) (ht : (pc : Int) + off = (tgt : Int)) (kk : J ws tgt lv st) : J ws pc lv (.int x :: st) := by
  obtain ⟨p, e, s, m, args, below, meth, c, hx, hb, hml, ho, hK, hr, hlk, rfl⟩ := hJ
  intro H locs ls hP hD hS hl
  exact lv_tableIn hx hb hd h1 h2 h3 ht (kk H locs ls hP hD hS hl)
theorem jj_tout (hJ : jJ l cc nL D tys own R rt A ro wf J) {dflt lo hi : Int} {offs : Array Int} {len : Nat} {x : Int32} (tgt : Nat) (hd : decode cc pc = .ok (.tableswitch dflt lo hi offs, len)) (h1 : x.toInt < lo ∨ hi < x.toInt) (ht : (pc : Int) + dflt = (tgt : Int)) (kk : J ws tgt lv st) : J ws pc lv (.int x :: st) := by
  obtain ⟨p, e, s, m, args, below, meth, c, hx, hb, hml, ho, hK, hr, hlk, rfl⟩ := hJ
  intro H locs ls hP hD hS hl
  exact lv_tableOut hx hb hd h1 ht (kk H locs ls hP hD hS hl)
theorem jj_lsw (hJ : jJ l cc nL D tys own R rt A ro wf J) {dflt : Int} {ps : Array (Int × Int)} {len : Nat} {x : Int32} {off : Int} (tgt : Nat) (hd : decode cc pc = .ok (.lookupswitch dflt ps, len)) (hp : (ps.toList.zip (ps.toList.drop 1)).all (fun (a, next) => a.1 < next.1) = true) (h3 : Op.lookupswitch.offset ps.toList dflt x.toInt = off) (ht : (pc : Int) + off = (tgt : Int)) (kk : J ws tgt lv st) : J ws pc lv (.int x :: st) := by
  obtain ⟨p, e, s, m, args, below, meth, c, hx, hb, hml, ho, hK, hr, hlk, rfl⟩ := hJ
  intro H locs ls hP hD hS hl
  exact lv_lookup hx hb hd hp h3 ht (kk H locs ls hP hD hS hl)
theorem jj_lv (hJ : jJ l cc nL D tys own R rt A ro wf J) {lv' : List (Nat × Value)} (ks : List Nat) (hk : lv_pick lv ks = lv') (kk : J ws pc lv' st) : J ws pc lv st := by
  obtain ⟨p, e, s, m, args, below, meth, c, hx, hb, hml, ho, hK, hr, hlk, rfl⟩ := hJ
  intro H locs ls hP hD hS hl
  exact kk H locs ls hP hD hS (lv_sub hl ks hk)
theorem jj_get (hJ : jJ l cc nL D tys own R rt A ro wf J) {C : String} {T : u_T} {N ci index a : Nat} {fs : List Value} {v : Value} (hlay : ∀ w ∈ u_ws C T N, w ∈ lw_tbl ∧ goodWord w = true) (hd : decode cc pc = .ok (.getfield index, 3)) (q0 k : Nat) (he : ws[q0]? = some (a, .inr (ci, fs))) (hc : vwCl[ci]? = some (C, T, N)) (hk : k < N) (hw : Cond.fieldLink own index (T k).1 (T k).2.1 (T k).2.2.1 ∈ lw_tbl) (hv : fs[k]? = some v) (kk : J ws (pc + 3) lv (v :: st)) : J ws pc lv (.ref a :: st) := by
  obtain ⟨p, e, s, m, args, below, meth, c, hx, hb, hml, ho, hK, hr, hlk, rfl⟩ := hJ
  intro H locs ls hP hD hS hl
  exact va_get (Ts := u_ws C T N) hx hb (fun w h => hK.2.1 w (hlay w h).1 (hlay w h).2 args) (fun _ h => h) ho hK.1 hP q0 he hc k hk (hK.2.1 _ hw rfl args) (fun _ h => h) hv hd (kk H locs ls hP hD hS hl)
theorem jj_getN (hJ : jJ l cc nL D tys own R rt A ro wf J) {C host : String} {T : u_T} {N ci index a : Nat} {fs : List Value} {v : Value} (hlay : ∀ w ∈ u_ws C T N, w ∈ lw_tbl ∧ goodWord w = true) (hd : decode cc pc = .ok (.getfield index, 3)) (q0 k : Nat) (he : ws[q0]? = some (a, .inr (ci, fs))) (hc : vwCl[ci]? = some (C, T, N)) (hk : k < N) (hw : (own, index, (T k).1, (T k).2.1, (T k).2.2.1, host) ∈ nestF) (hv : fs[k]? = some v) (kk : J ws (pc + 3) lv (v :: st)) : J ws pc lv (.ref a :: st) := by
  obtain ⟨p, e, s, m, args, below, meth, c, hx, hb, hml, ho, hK, hr, hlk, rfl⟩ := hJ
  intro H locs ls hP hD hS hl
  exact va_getN (Ts := u_ws C T N) hx hb (fun w h => hK.2.1 w (hlay w h).1 (hlay w h).2 args) (fun _ h => h) ho hK.1 hP q0 he hc k hk (va_Nw.use rfl (hK.2.2.1 _ hw)) (fun _ h => h) hv hd (kk H locs ls hP hD hS hl)
theorem jj_puti (hJ : jJ l cc nL D tys own R rt A ro wf J) {C : String} {T : u_T} {N ci index a : Nat} {fs : List Value} {x : Int32} {wn : va_W} (hlay : ∀ w ∈ u_ws C T N, w ∈ lw_tbl ∧ goodWord w = true)(ty0 : Nat → FieldType) (hty : ∀ k, k < N → parseFieldDescriptor (T k).2.2.1 = some (ty0 k)) (hnm : ∀ a, a < N → ∀ b, b < N → a ≠ b → (T a).2.1 ≠ (T b).2.1) (hd : decode cc pc = .ok (.putfield index, 3)) (q0 k : Nat) (he : ws[q0]? = some (a, .inr (ci, fs))) (hc : vwCl[ci]? = some (C, T, N)) (hk : k < N) (hw : Cond.fieldLink own index (T k).1 (T k).2.1 (T k).2.2.1 ∈ lw_tbl) (hfin : (T k).2.2.2 = false) (hpd : parseFieldDescriptor (T k).2.2.1 = some .int) (hlen : k < fs.length) (hwn : ws.set q0 (a, .inr (ci, fs.set k (.int x))) = wn) (kk : J wn (pc + 3) lv st) : J ws pc lv (.int x :: .ref a :: st) := by
  obtain ⟨p, e, s, m, args, below, meth, c, hx, hb, hml, ho, hK, hr, hlk, rfl⟩ := hJ
  intro H locs ls hP hD hS hl
  subst hwn
  exact va_put (Ts := u_ws C T N) (ty := .int) hx hb (fun w h => hK.2.1 w (hlay w h).1 (hlay w h).2 args) (fun _ h => h) ty0 hty hnm ho hK.1 hP hD hS q0 he hc k hk (hK.2.1 _ hw rfl args) (fun _ h => h) hfin hpd rfl rfl hlen hd (fun H locs hP hD hS => kk H locs ls hP hD hS hl)
theorem jj_putN (hJ : jJ l cc nL D tys own R rt A ro wf J) {C host : String} {T : u_T} {N ci index a : Nat} {fs : List Value} {x : Int32} {wn : va_W} (hlay : ∀ w ∈ u_ws C T N, w ∈ lw_tbl ∧ goodWord w = true)(ty0 : Nat → FieldType) (hty : ∀ k, k < N → parseFieldDescriptor (T k).2.2.1 = some (ty0 k)) (hnm : ∀ a, a < N → ∀ b, b < N → a ≠ b → (T a).2.1 ≠ (T b).2.1) (hd : decode cc pc = .ok (.putfield index, 3)) (q0 k : Nat) (he : ws[q0]? = some (a, .inr (ci, fs))) (hc : vwCl[ci]? = some (C, T, N)) (hk : k < N) (hw : (own, index, (T k).1, (T k).2.1, (T k).2.2.1, host) ∈ nestF) (hfin : (T k).2.2.2 = false) (hpd : parseFieldDescriptor (T k).2.2.1 = some .int) (hlen : k < fs.length) (hwn : ws.set q0 (a, .inr (ci, fs.set k (.int x))) = wn) (kk : J wn (pc + 3) lv st) : J ws pc lv (.int x :: .ref a :: st) := by
  obtain ⟨p, e, s, m, args, below, meth, c, hx, hb, hml, ho, hK, hr, hlk, rfl⟩ := hJ
  intro H locs ls hP hD hS hl
  subst hwn
  exact va_putN (Ts := u_ws C T N) (ty := .int) hx hb (fun w h => hK.2.1 w (hlay w h).1 (hlay w h).2 args) (fun _ h => h) ty0 hty hnm ho hK.1 hP hD hS q0 he hc k hk (va_Nw.use rfl (hK.2.2.1 _ hw)) (fun _ h => h) hfin hpd rfl rfl hlen hd (fun H locs hP hD hS => kk H locs ls hP hD hS hl)
theorem jj_iald (hJ : jJ l cc nL D tys own R rt A ro wf J) {cA : ClassId} {n a : Nat} {f : Nat → Int32} {i x : Int32} (hd : decode cc pc = .ok (.iaload, 1)) (q0 t0 : Nat) (ha : ws[q0]? = some (a, .inl (cA, n, .inl f))) (ht : tys[t0]? = some (cA, .int)) (hr9 : rd f n i = some x) (kk : J ws (pc + 1) lv (.int x :: st)) : J ws pc lv (.int i :: .ref a :: st) := by
  obtain ⟨p, e, s, m, args, below, meth, c, hx, hb, hml, ho, hK, hr, hlk, rfl⟩ := hJ
  intro H locs ls hP hD hS hl
  obtain ⟨hin, rfl⟩ := rd_some hr9
  exact va_iald hx hb hK.1 hP q0 t0 ha ht hin hd (kk H locs ls hP hD hS hl)
theorem jj_iast (hJ : jJ l cc nL D tys own R rt A ro wf J) {cA : ClassId} {n a : Nat} {f g : Nat → Int32} {i x : Int32} {wn : va_W} (hd : decode cc pc = .ok (.iastore, 1)) (q0 t0 : Nat) (ha : ws[q0]? = some (a, .inl (cA, n, .inl f))) (ht : tys[t0]? = some (cA, .int)) (hr9 : wr f n i x = some g) (hwn : ws.set q0 (a, .inl (cA, n, .inl g)) = wn) (kk : J wn (pc + 1) lv st) : J ws pc lv (.int x :: .int i :: .ref a :: st) := by
  obtain ⟨p, e, s, m, args, below, meth, c, hx, hb, hml, ho, hK, hr, hlk, rfl⟩ := hJ
  intro H locs ls hP hD hS hl
  obtain ⟨hin, rfl⟩ := wr_some hr9
  subst hwn
  exact va_iast hx hb hK.1 hP hD hS q0 t0 ha ht hin hd (fun H locs hP hD hS => kk H locs ls hP hD hS hl)
theorem jj_aald (hJ : jJ l cc nL D tys own R rt A ro wf J) {cA : ClassId} {ty : FieldType} {n a b : Nat} {f : Nat → Option Nat} {i : Int32} (hd : decode cc pc = .ok (.aaload, 1)) (q0 t0 : Nat) (ha : ws[q0]? = some (a, .inl (cA, n, .inr (.inr (.inr (.inr f)))))) (ht : tys[t0]? = some (cA, ty)) (hty : ty.isReference = true) (hin : vp_in i n) (hb9 : f i.toNatClampNeg = some b) (kk : J ws (pc + 1) lv (.ref b :: st)) : J ws pc lv (.int i :: .ref a :: st) := by
  obtain ⟨p, e, s, m, args, below, meth, c, hx, hb, hml, ho, hK, hr, hlk, rfl⟩ := hJ
  intro H locs ls hP hD hS hl
  have hlt : i.toNatClampNeg < n := Nat.not_le.mp fun q => hin (Or.inr q)
  have e9 : va_rf (f i.toNatClampNeg) = .ref b := by rw [hb9]; rfl
  exact W.aald (v := .ref b) (ty := ty) hx hb (hP q0 _ ha) ((hK.1.2 t0 _ ht).1 n (fun j => va_rf (f j))) hty (fun q => by cases q) (by show ¬ (i < 0 ∨ (arrV _ _ _).slots.size ≤ _); rw [arrV_size]; exact hin) (by show (arrV _ _ _).slots[_]? = _; rw [arrV_read _ _ hlt, e9]) rfl rfl hd (kk H locs ls hP hD hS hl)
theorem jj_aast (hJ : jJ l cc nL D tys own R rt A ro wf J) {cA : ClassId} {r : vw_C} {n a v ci : Nat} {vs : List Value} {f g : Nat → Option Nat} {i : Int32} {wn : va_W} (hd : decode cc pc = .ok (.aastore, 1)) (q0 t0 qk : Nat) (ha : ws[q0]? = some (a, .inl (cA, n, .inr (.inr (.inr (.inr f)))))) (ht : tys[t0]? = some (cA, .object r.1)) (hv : ws[qk]? = some (v, .inr (ci, vs))) (hc : vwCl[ci]? = some r) (hin : vp_in i n) (hg : va_up f i.toNatClampNeg (some v) = g) (hwn : ws.set q0 (a, .inl (cA, n, .inr (.inr (.inr (.inr g))))) = wn) (kk : J wn (pc + 1) lv st) : J ws pc lv (.ref v :: .int i :: .ref a :: st) := by
  obtain ⟨p, e, s, m, args, below, meth, c, hx, hb, hml, ho, hK, hr, hlk, rfl⟩ := hJ
  intro H locs ls hP hD hS hl
  subst hg
  subst hwn
  exact va_astq hx hb hK.1 hP hD hS q0 t0 qk ci ha ht hv hc hin hd (fun H locs hP hD hS => kk H locs ls hP hD hS hl)
theorem jj_iret {v9 : Int32} (hJ : jJ l cc nL D tys own R (some .int) A (some v9) wf J) (hd : decode cc pc = .ok (.ireturn, 1)) : J wf pc lv [.int v9] := by
  obtain ⟨p, e, s, m, args, below, meth, c, hx, hb, hml, ho, hK, hr, hlk, rfl⟩ := hJ
  intro H locs ls hP hD hS hl
  exact W.iret hx hb hr (fun t ht hW => ⟨rfl, by rw [ht]; exact hP, by rw [ht]; exact hS.1, fun q h1 h2 => by rw [ht]; exact hS.2.1 q h1 h2⟩) hS.2.2 hd
theorem jj_zret {v9 : Int32} (hJ : jJ l cc nL D tys own R (some .boolean) A (some v9) wf J) (hn : v9 = 0 ∨ v9 = 1) (hd : decode cc pc = .ok (.ireturn, 1)) : J wf pc lv [.int v9] := by
  obtain ⟨p, e, s, m, args, below, meth, c, hx, hb, hml, ho, hK, hr, hlk, rfl⟩ := hJ
  intro H locs ls hP hD hS hl
  exact W.zret hx hb hr (by rcases hn with rfl | rfl <;> rfl) (fun t ht hW => ⟨rfl, by rw [ht]; exact hP, by rw [ht]; exact hS.1, fun q h1 h2 => by rw [ht]; exact hS.2.1 q h1 h2⟩) hS.2.2 hd
theorem jj_vret (hJ : jJ l cc nL D tys own R none A none wf J) (hd : decode cc pc = .ok (.return_, 1)) : J wf pc lv [] := by
  obtain ⟨p, e, s, m, args, below, meth, c, hx, hb, hml, ho, hK, hr, hlk, rfl⟩ := hJ
  intro H locs ls hP hD hS hl
  exact W.vret hx hb hr (fun t ht hW => ⟨rfl, by rw [ht]; exact hP, by rw [ht]; exact hS.1, fun q h1 h2 => by rw [ht]; exact hS.2.1 q h1 h2⟩) hS.2.2 hd
theorem jj_max (hJ : jJ l cc nL D tys own R rt A ro wf J) {index : Nat} {x y : Int32} (hd : decode cc pc = .ok (.invokestatic index, 3)) (hw : Cond.methodLink own index Lib.Math.max.name ∈ lw_tbl) (h2 : Cond.static Lib.Math.max.name ∈ lw_tbl) (h3 : Cond.initialized "java/lang/Math" ∈ lw_tbl) (h4 : Cond.code Lib.Math.max.name Lib.Math.max.code 2 (some .int) ∈ lw_tbl) (hf : 1 ≤ R.frames) (hlo : (st.map fun v => v.category).sum + 13 ≤ R.locals) (kk : J ws (pc + 3) lv (.int (if x < y then y else x) :: st)) : J ws pc lv (.int y :: .int x :: st) := by
  obtain ⟨p, e, s, m, args, below, meth, c, hx, hb, hml, ho, hK, hr, hlk, rfl⟩ := hJ
  intro H locs ls hP hD hS hl
  exact va_mmax hx hb (hml.trans hl.1.symm) ho (hK.2.1 _ hw rfl args) (hK.2.1 _ h2 rfl args) (hK.2.1 _ h3 rfl args) (hK.2.1 _ h4 rfl args) hf hlo (Nat.zero_le _) (Nat.zero_le _) hd (kk H locs ls hP hD hS hl)
theorem jj_min (hJ : jJ l cc nL D tys own R rt A ro wf J) {index : Nat} {x y : Int32} (hd : decode cc pc = .ok (.invokestatic index, 3)) (hw : Cond.methodLink own index Lib.Math.min.name ∈ lw_tbl) (h2 : Cond.static Lib.Math.min.name ∈ lw_tbl) (h3 : Cond.initialized "java/lang/Math" ∈ lw_tbl) (h4 : Cond.code Lib.Math.min.name Lib.Math.min.code 2 (some .int) ∈ lw_tbl) (hf : 1 ≤ R.frames) (hlo : (st.map fun v => v.category).sum + 13 ≤ R.locals) (kk : J ws (pc + 3) lv (.int (if y < x then y else x) :: st)) : J ws pc lv (.int y :: .int x :: st) := by
  obtain ⟨p, e, s, m, args, below, meth, c, hx, hb, hml, ho, hK, hr, hlk, rfl⟩ := hJ
  intro H locs ls hP hD hS hl
  exact va_mmin hx hb (hml.trans hl.1.symm) ho (hK.2.1 _ hw rfl args) (hK.2.1 _ h2 rfl args) (hK.2.1 _ h3 rfl args) (hK.2.1 _ h4 rfl args) hf hlo (Nat.zero_le _) (Nat.zero_le _) hd (kk H locs ls hP hD hS hl)
theorem jj_copy (hJ : jJ l cc nL D tys own R rt A ro wf J) {index a a0 n0 n1 : Nat} {c0 c1 : ClassId} {f g h : Nat → Int32} {sp dp n : Int32} {wn : va_W} (hd : decode cc pc = .ok (.invokestatic index, 3)) (hw : Cond.methodLink own index arraycopyName ∈ lw_tbl) (h2 : Cond.native arraycopyName ∈ lw_tbl) (h3 : Cond.static arraycopyName ∈ lw_tbl) (h4 : Cond.initialized "java/lang/System" ∈ lw_tbl) (q0 q1 t0 t1 : Nat) (ha0 : ws[q0]? = some (a0, .inl (c0, n0, .inl f))) (ha1 : ws[q1]? = some (a, .inl (c1, n1, .inl g))) (ht0 : tys[t0]? = some (c0, .int)) (ht1 : tys[t1]? = some (c1, .int)) (g1 : ¬ sp < 0) (g2 : ¬ dp < 0) (g3 : ¬ n < 0) (g4 : sp.toNatClampNeg + n.toNatClampNeg ≤ n0) (g5 : dp.toNatClampNeg + n.toNatClampNeg ≤ n1) (hf : 1 ≤ R.frames) (hlo : (st.map fun v => v.category).sum + (nativeFrameWords "java/lang/System" "arraycopy" 5 + 11) ≤ R.locals) (hh : va_cpy f g sp.toNatClampNeg dp.toNatClampNeg n.toNatClampNeg = h) (hwn : ws.set q1 (a, .inl (c1, n1, .inl h)) = wn) (kk : J wn (pc + 3) lv st) : J ws pc lv (.int n :: .int dp :: .ref a :: .int sp :: .ref a0 :: st) := by
  obtain ⟨p, e, s, m, args, below, meth, c, hx, hb, hml, ho, hK, hr, hlk, rfl⟩ := hJ
  intro H locs ls hP hD hS hl
  subst hh
  subst hwn
  exact va_copyi (ty := .int) hx hb (hml.trans hl.1.symm) ho (hK.2.1 _ hw rfl args) (hK.2.1 _ h2 rfl args) (hK.2.1 _ h3 rfl args) (hK.2.1 _ h4 rfl args) hK.1 hP hD hS q0 q1 t0 t1 ha0 ha1 ht0 ht1 rfl g1 g2 g3 g4 g5 (fun _ _ => rfl) hf hlo hd (fun H locs hP hD hS => kk H locs ls hP hD hS hl)
end JR
