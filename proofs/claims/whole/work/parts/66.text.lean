/-! The one text constant: its length, its letters, by the JDK's own code. -/
def txB : List Int32 := [118, 48, 59, 118, 49, 59, 118, 48, 59, 118, 51, 59, 118, 50, 59, 118, 49, 59, 118, 48, 59, 99, 48, 44, 49, 44, 49, 59, 99, 49, 44, 48, 44, 51, 59, 100, 51, 44, 50, 44, 50, 59, 99, 50, 44, 49, 44, 52, 59, 99, 52, 44, 50, 44, 53, 59, 99, 48, 44, 51, 44, 53, 59, 100, 53, 44, 54, 44, 49, 59, 99, 54, 44, 48, 44, 48, 59]
def txS : String := "v0;v1;v0;v3;v2;v1;v0;c0,1,1;c1,0,3;d3,2,2;c2,1,4;c4,2,5;c0,3,5;d5,6,1;c6,0,0;"
def sX (a v : Nat) (fv : Value) (A : Nat → Prop) (U : State) : Prop := vk_S 1 [77] [txB] (fun _ => a) (fun _ => v) A U U.heap ∧ va_Z "java/lang/String" "COMPACT_STRINGS" "Z" (.int 1) A U U.heap ∧ va_Z "jdk/internal/util/Preconditions" "SIOOBE_FORMATTER" "Ljava/util/function/BiFunction;" fv A U U.heap
theorem sX.pass {a v : Nat} {fv : Value} {A B : Nat → Prop} {s U : State} {H : Heap} {locs : List Loc} (h : sX a v fv A s) (hS : va_S A s.heap H locs) (hB : ∀ q, B q → A q) (hU : U.heap = H) (hW : s.WarmedH U.vm) : sX a v fv B U := by
  subst hU
  exact ⟨((h.1.kept hS.2.1).moved hW.alike).narrow hB, ((h.2.1.kept hS.2.1).moved hW.alike).narrow hB, ((h.2.2.kept hS.2.1).moved hW.alike).narrow hB⟩
theorem sX.call {a v : Nat} {fv : Value} {A : Nat → Prop} (U : State) (g : JFrame) (mk : MethodId) (x : Array Value) (h : sX a v fv A U) : sX a v fv A (U.calling g mk x) := ⟨h.1.moved (u := U) (U := U.calling g mk x) (Vm.Alike.refl U.vm), h.2.1.moved (u := U) (U := U.calling g mk x) (Vm.Alike.refl U.vm), h.2.2.moved (u := U) (U := U.calling g mk x) (Vm.Alike.refl U.vm)⟩
theorem A0 {q sz : Nat} : va_A [] sz q ↔ sz ≤ q := ⟨fun h => h.elim (fun ⟨k, e, hk⟩ => by simp at hk) id, Or.inr⟩
section SR
variable {l : Launch} {cc : ByteArray} {nL : Nat} {D : va_G} {tys : List (ClassId × FieldType)} {own : String} {R : Room} {A : Nat → Prop} {Z : nZ} {J : nT} {ck cs : Nat} {ws : va_W} {pc : Nat} {lv : List (Nat × Value)} {st : List Value} {a v : Nat} {fv : Value}
theorem nRunX {p : Program} {e : Env} {s : State} {m : MethodId} {args : Array Value} {below : List Frame} {meth : Method} {c : Code} {H : Heap} {locs : List Loc} {ls : Array Slot} {Q : State → Prop} {st0 rest : List Value} {x : Array Value} {r : Option Int32}
    (hr : va_Run p l e R s m args below meth c H locs ck cs 0 0 (F0 m pc ls st0) rest (nPost D (va_A [] H.size) r (fun _ => []) 0 x) (va_A [] H.size)) (hP : va_P D vwCl ws H) (hS : va_S A s.heap H locs) (hA : ∀ q : Nat, s.heap.size ≤ q → A q)
    (kk : ∀ (H1 : Heap) (locs1 : List Loc), va_P D vwCl ws H1 → va_S A s.heap H1 locs1 → W p l e R s m args below meth c H1 locs1 ck cs Q (F0 m (pc + 3) ls ((r.map Value.int).toList ++ rest))) : W p l e R s m args below meth c H locs ck cs Q (F0 m pc ls st0) := by
  intro T hT X
  obtain ⟨v, st₀, t, T', L, h0, X', hL, e1', e2, ⟨hv, qs, hql, hP1, hD1, hz, hk⟩, stp⟩ := hr T hT X
  have hv' : v = r.map Value.int := by cases hv; rfl
  subst hv'
  rw [h0] at hz hk
  rw [← e1'] at hz hk
  have hk' : ∀ q : Nat, q < H.size → T'.heap[q]? = H[q]? := fun q hq => hk q hq (fun z => by have := A0.mp z; omega)
  have hP2 : va_P D vwCl ws T'.heap := hP.kept (fun k q hq => hk' q.1 (va_at_lt hP hq))
  have hS2 : va_S A s.heap T'.heap (locs ++ L) := ⟨Nat.le_trans hS.1 hz, fun q h1 h2 => by rw [hk' q (Nat.lt_of_lt_of_le h1 hS.1)]; exact hS.2.1 q h1 h2, fun q hq => (List.mem_append.mp hq).elim (hS.2.2 q) (fun h => hA _ (Nat.le_trans hS.1 (A0.mp (hL q h))))⟩
  obtain ⟨t2, a1, b1⟩ := kk T'.heap (locs ++ L) hP2 hS2 T' rfl X'
  exact ⟨t2, stp t2 a1, b1⟩
theorem nn_xV (hJ : nJ l cc nL D tys own R A Z J) (hZX : ∀ s meth args below Q, Z s meth args below Q → sX a v fv A s) {y : MethodName} {bytes : ByteArray} {maxL n index : Nat} {rty : Option FieldType} {Rc : Room} {As rest : List Value} {r : Option Int32}
    (hM : ∀ sz, Met l y [Cond.code y bytes maxL rty] Rc (nPre D tys (.ref a :: As) [] sz (sX a v fv (va_A [] sz))) (nPost D (va_A [] sz) r (fun _ => []) 0) 0 0 (va_A [] sz)) (hd : decode cc pc = .ok (.invokevirtual index, 3)) (hcc : ck ≤ R.cells ∧ cs ≤ R.slots) (hk : cwOk y bytes maxL rty n) (hR : cwRn R Rc maxL 0 0) (h1 : Cond.methodLink own index y ∈ lw_tbl) (h2 : Cond.instanceMethod y ∈ lw_tbl) (h3 : Cond.selects "java/lang/String" y y ∈ lw_tbl) (hn : As.length = n) (hst : As.reverse ++ .ref a :: rest = st) (hroom : (rest.map fun v => v.category).sum ≤ 8)
    (kk : J ck cs ws (pc + 3) lv ((r.map Value.int).toList ++ rest)) : J ck cs ws pc lv st := by
  subst hst
  obtain ⟨p, e, s, m, args, below, meth, c, Q, hx, hb, hml, ho, hK, hA, hZ, rfl⟩ := hJ
  intro H locs ls hP hD hS hl
  exact nRunX (va_runV (Ts := []) (As := As) (rest := rest) ⟨hx, hb, hml, ho, fun _ h => absurd h List.not_mem_nil⟩ (hM H.size) ⟨jcBn hK hk hR h1, hK.2.1 _ h2 rfl args, hK.2.1 _ h3 rfl args⟩ ⟨nPre_blind (fun U g mk x h => sX.call U g mk x h), vk_recv (i := 0) (hZX _ _ _ _ _ hZ).1 (by decide) hS, fun U hU hW => ⟨rfl, by rw [hU], fun k q hq => by simp at hq, hK.warm hW, ⟨fun i j p q hi => by simp at hi, fun k q hq => by simp at hq⟩, (hZX _ _ _ _ _ hZ).pass hS (fun q hq => hA q (Nat.le_trans hS.1 (A0.mp hq))) hU hW⟩⟩ rfl hn hl.1 rfl (lv_room hroom) hd hcc) hP hS hA (fun H locs hP hS => kk H locs ls hP hD hS hl)
theorem nn_xS (hJ : nJ l cc nL D tys own R A Z J) (hZX : ∀ s meth args below Q, Z s meth args below Q → sX a v fv A s) {y : MethodName} {bytes : ByteArray} {maxL n index : Nat} {rty : Option FieldType} {Rc : Room} {As rest : List Value} {r : Option Int32}
    (hM : ∀ sz, Met l y [Cond.code y bytes maxL rty] Rc (nPre D tys As [] sz (sX a v fv (va_A [] sz))) (nPost D (va_A [] sz) r (fun _ => []) 0) 0 0 (va_A [] sz)) (hd : decode cc pc = .ok (.invokestatic index, 3)) (hcc : ck ≤ R.cells ∧ cs ≤ R.slots) (hk : cwOk y bytes maxL rty n) (hR : cwRn R Rc maxL 0 0) (h1 : Cond.methodLink own index y ∈ lw_tbl) (h2 : Cond.static y ∈ lw_tbl) (hn : As.length = n) (hst : As.reverse ++ rest = st) (hroom : (rest.map fun v => v.category).sum ≤ 8)
    (kk : J ck cs ws (pc + 3) lv ((r.map Value.int).toList ++ rest)) : J ck cs ws pc lv st := by
  subst hst
  obtain ⟨p, e, s, m, args, below, meth, c, Q, hx, hb, hml, ho, hK, hA, hZ, rfl⟩ := hJ
  intro H locs ls hP hD hS hl
  exact nRunX (va_runS (Ts := []) (As := As) (rest := rest) ⟨hx, hb, hml, ho, fun _ h => absurd h List.not_mem_nil⟩ (hM H.size) ⟨jcBn hK hk hR h1, hK.2.1 _ h2 rfl args⟩ ⟨nPre_blind (fun U g mk x h => sX.call U g mk x h), fun U hU hW => ⟨rfl, by rw [hU], fun k q hq => by simp at hq, hK.warm hW, ⟨fun i j p q hi => by simp at hi, fun k q hq => by simp at hq⟩, (hZX _ _ _ _ _ hZ).pass hS (fun q hq => hA q (Nat.le_trans hS.1 (A0.mp hq))) hU hW⟩⟩ rfl hn hl.1 rfl (lv_room hroom) hd hcc) hP hS hA (fun H locs hP hS => kk H locs ls hP hD hS hl)
theorem nn_coder (hJ : nJ l cc nL D tys own R A Z J) (hZX : ∀ s meth args below Q, Z s meth args below Q → sX a v fv A s) {index : Nat} (hd : decode cc pc = .ok (.getfield index, 3)) (hw : Cond.fieldLink own index "java/lang/String" "coder" "B" ∈ lw_tbl) (kk : J ck cs ws (pc + 3) lv (.int 0 :: st)) : J ck cs ws pc lv (.ref a :: st) := by
  obtain ⟨p, e, s, m, args, below, meth, c, Q, hx, hb, hml, ho, hK, hA, hZ, rfl⟩ := hJ
  intro H locs ls hP hD hS hl
  exact vk_getf hx hb ((hZX _ _ _ _ _ hZ).1.1 0 (by decide)).2.1 hS ho (hK.2.1 _ hw rfl args) (fun _ h => h) hd (kk H locs ls hP hD hS hl)
theorem nn_value (hJ : nJ l cc nL D tys own R A Z J) (hZX : ∀ s meth args below Q, Z s meth args below Q → sX a v fv A s) {index : Nat} (hd : decode cc pc = .ok (.getfield index, 3)) (hw : Cond.fieldLink own index "java/lang/String" "value" "[B" ∈ lw_tbl) (kk : J ck cs ws (pc + 3) lv (.ref v :: st)) : J ck cs ws pc lv (.ref a :: st) := by
  obtain ⟨p, e, s, m, args, below, meth, c, Q, hx, hb, hml, ho, hK, hA, hZ, rfl⟩ := hJ
  intro H locs ls hP hD hS hl
  exact vk_getf hx hb ((hZX _ _ _ _ _ hZ).1.1 0 (by decide)).2.2.1 hS ho (hK.2.1 _ hw rfl args) (fun _ h => h) hd (kk H locs ls hP hD hS hl)
theorem nn_vlen (hJ : nJ l cc nL D tys own R A Z J) (hZX : ∀ s meth args below Q, Z s meth args below Q → sX a v fv A s) (hd : decode cc pc = .ok (.arraylength, 1)) (kk : J ck cs ws (pc + 1) lv (.int 77 :: st)) : J ck cs ws pc lv (.ref v :: st) := by
  obtain ⟨p, e, s, m, args, below, meth, c, Q, hx, hb, hml, ho, hK, hA, hZ, rfl⟩ := hJ
  intro H locs ls hP hD hS hl
  exact va_tlen hx hb ((hZX _ _ _ _ _ hZ).1.1 0 (by decide)).2.2.2 hS (v := 77) rfl hd (kk H locs ls hP hD hS hl)
theorem nn_vget (hJ : nJ l cc nL D tys own R A Z J) (hZX : ∀ s meth args below Q, Z s meth args below Q → sX a v fv A s) {i : Nat} (hi : i < 77) (hd : decode cc pc = .ok (.baload, 1)) (kk : J ck cs ws (pc + 1) lv (.int (txB.getD i 0) :: st)) : J ck cs ws pc lv (.int (nI i) :: .ref v :: st) := by
  obtain ⟨p, e, s, m, args, below, meth, c, Q, hx, hb, hml, ho, hK, hA, hZ, rfl⟩ := hJ
  intro H locs ls hP hD hS hl
  exact va_tb hx hb ((hZX _ _ _ _ _ hZ).1.1 0 (by decide)).2.2.2 hS (vp_in_nI (N := 77) hi (by decide)) (by rw [nI_clamp (by omega)]; rfl) hd (kk H locs ls hP hD hS hl)
theorem nn_compact (hJ : nJ l cc nL D tys own R A Z J) (hZX : ∀ s meth args below Q, Z s meth args below Q → sX a v fv A s) {index : Nat} (hd : decode cc pc = .ok (.getstatic index, 3)) (hw : Cond.fieldLink own index "java/lang/String" "COMPACT_STRINGS" "Z" ∈ lw_tbl) (kk : J ck cs ws (pc + 3) lv (.int 1 :: st)) : J ck cs ws pc lv st := by
  obtain ⟨p, e, s, m, args, below, meth, c, Q, hx, hb, hml, ho, hK, hA, hZ, rfl⟩ := hJ
  intro H locs ls hP hD hS hl
  exact va_gets hx hb (hZX _ _ _ _ _ hZ).2.1 hS ho (hK.2.1 _ hw rfl args) (fun _ h => h) hd (kk H locs ls hP hD hS hl)
theorem nn_format (hJ : nJ l cc nL D tys own R A Z J) (hZX : ∀ s meth args below Q, Z s meth args below Q → sX a v fv A s) {index : Nat} (hd : decode cc pc = .ok (.getstatic index, 3)) (hw : Cond.fieldLink own index "jdk/internal/util/Preconditions" "SIOOBE_FORMATTER" "Ljava/util/function/BiFunction;" ∈ lw_tbl) (kk : J ck cs ws (pc + 3) lv (fv :: st)) : J ck cs ws pc lv st := by
  obtain ⟨p, e, s, m, args, below, meth, c, Q, hx, hb, hml, ho, hK, hA, hZ, rfl⟩ := hJ
  intro H locs ls hP hD hS hl
  exact va_gets hx hb (hZX _ _ _ _ _ hZ).2.2 hS ho (hK.2.1 _ hw rfl args) (fun _ h => h) hd (kk H locs ls hP hD hS hl)
theorem nn_i2c (hJ : nJ l cc nL D tys own R A Z J) {x y : Int32} (hd : decode cc pc = .ok (.i2c, 1)) (hv : (x.toUInt32 % 65536).toInt32 = y) (kk : J ck cs ws (pc + 1) lv (.int y :: st)) : J ck cs ws pc lv (.int x :: st) := by
  obtain ⟨p, e, s, m, args, below, meth, c, Q, hx, hb, hml, ho, hK, hA, hZ, rfl⟩ := hJ
  intro H locs ls hP hD hS hl
  exact lv_i2c hx hb hd hv (kk H locs ls hP hD hS hl)
end SR
theorem kx_J3_checkIndex_8e157 : cwOk yJ3_checkIndex_8e157 cJ3_checkIndex_8e157 3 (some .int) 3 := ⟨tb1 (i := 191) rfl, tb1 (i := 10) rfl, by decide +kernel, by decide +kernel, by decide +kernel⟩
theorem kx_J0_checkIndex_df160 : cwOk yJ0_checkIndex_df160 cJ0_checkIndex_df160 2 none 2 := ⟨tb1 (i := 186) rfl, tb1 (i := 8) rfl, by decide +kernel, by decide +kernel, by decide +kernel⟩
theorem kx_J1_charAt_3b067 : cwOk yJ1_charAt_3b067 cJ1_charAt_3b067 2 (some .char) 2 := ⟨tb1 (i := 183) rfl, tb1 (i := 9) rfl, by decide +kernel, by decide +kernel, by decide +kernel⟩
theorem kx_J0_coder_7d493 : cwOk yJ0_coder_7d493 cJ0_coder_7d493 1 (some .byte) 0 := ⟨tb1 (i := 170) rfl, tb1 (i := 8) rfl, by decide +kernel, by decide +kernel, by decide +kernel⟩
theorem kx_J0_isLatin1_aae02 : cwOk yJ0_isLatin1_aae02 cJ0_isLatin1_aae02 1 (some .boolean) 0 := ⟨tb1 (i := 180) rfl, tb1 (i := 8) rfl, by decide +kernel, by decide +kernel, by decide +kernel⟩
theorem kx_J0_length_8abf5 : cwOk yJ0_length_8abf5 cJ0_length_8abf5 1 (some .int) 0 := ⟨tb1 (i := 166) rfl, tb1 (i := 8) rfl, by decide +kernel, by decide +kernel, by decide +kernel⟩
theorem kx_J0_charAt_5068e : cwOk yJ0_charAt_5068e cJ0_charAt_5068e 2 (some .char) 1 := ⟨tb1 (i := 176) rfl, tb1 (i := 8) rfl, by decide +kernel, by decide +kernel, by decide +kernel⟩
def Rm_J3 : Room := { frames := 0, cells := 0, slots := 0, locals := 0 }
theorem c_J3_check (l : Launch) (D : va_G) (tys : List (ClassId × FieldType)) (a v : Nat) (fv : Value) (sz : Nat) (hfv : fv = .null ∨ ∃ t, fv = .ref t) {i n : Nat} (hi : i < n) (hn : n < 1000) : Met l yJ3_checkIndex_8e157 [Cond.code yJ3_checkIndex_8e157 cJ3_checkIndex_8e157 3 (some .int)] Rm_J3 (nPre D tys [.int (nI i), .int (nI n), fv] [] sz (sX a v fv (va_A [] sz))) (nPost D (va_A [] sz) (some (nI i)) (fun _ => []) 0) 0 0 (va_A [] sz) := by
  rcases hfv with rfl | ⟨t, rfl⟩
  all_goals
    refine nc_of (own := RJ3) (by decide) rfl (Nat.le_of_ble_eq_true rfl) (fun J hJ => ?_)
    refine nn_iload_n hJ dJ3_checkIndex_8e157_0 0 rfl rfl ?_
    refine nn_if_lt hJ 9 dJ3_checkIndex_8e157_1 (by decide) (fun q => absurd q (nI_pos (by omega))) (fun _ => ?_)
    refine nn_iload_n hJ dJ3_checkIndex_8e157_4 0 rfl rfl ?_
    refine nn_iload_n hJ dJ3_checkIndex_8e157_5 1 rfl rfl ?_
    refine nn_icmp_lt hJ 16 dJ3_checkIndex_8e157_6 (by decide) (fun _ => ?_) (fun q => absurd (nI_lt hi (by omega)) q)
    refine nn_iload_n hJ dJ3_checkIndex_8e157_16 0 rfl rfl ?_
    exact nn_rret hJ rfl dJ3_checkIndex_8e157_17 [] rfl rfl
def Rm_J0c : Room := { frames := 1, cells := 0, slots := 0, locals := 22 }
theorem c_J0_check (l : Launch) (D : va_G) (tys : List (ClassId × FieldType)) (a v : Nat) (fv : Value) (sz : Nat) (hfv : fv = .null ∨ ∃ t, fv = .ref t) {i n : Nat} (hi : i < n) (hn : n < 1000) : Met l yJ0_checkIndex_df160 [Cond.code yJ0_checkIndex_df160 cJ0_checkIndex_df160 2 none] Rm_J0c (nPre D tys [.int (nI i), .int (nI n)] [] sz (sX a v fv (va_A [] sz))) (nPost D (va_A [] sz) none (fun _ => []) 0) 0 0 (va_A [] sz) := by
  refine nc_of (own := RJ0) (by decide) rfl (Nat.le_of_ble_eq_true rfl) (fun J hJ => ?_)
  have hZX : ∀ s meth args below Q, zM yJ0_checkIndex_df160.name none (sX a v fv (va_A [] sz)) (nPost D (va_A [] sz) none (fun _ => []) 0) 0 0 (va_A [] sz) s meth args below Q → sX a v fv (va_A [] sz) s := fun _ _ _ _ _ h => h.2.2.2.1
  refine nn_iload_n hJ dJ0_checkIndex_df160_0 0 rfl rfl ?_
  refine nn_iload_n hJ dJ0_checkIndex_df160_1 1 rfl rfl ?_
  refine nn_format hJ hZX dJ0_checkIndex_df160_2 (tb1 (i := 187) rfl) ?_
  refine nn_xS hJ hZX (As := [.int (nI i), .int (nI n), fv]) (rest := []) (r := some (nI i)) (fun sz => c_J3_check l D tys a v fv sz hfv hi hn) dJ0_checkIndex_df160_5 ⟨Nat.le_refl _, Nat.le_refl _⟩ kx_J3_checkIndex_8e157 ⟨by decide, by decide, rfl, rfl⟩ (tb1 (i := 189) rfl) (tb1 (i := 190) rfl) rfl rfl (by decide) ?_
  refine nn_pop hJ dJ0_checkIndex_df160_8 rfl ?_
  exact nn_vret hJ dJ0_checkIndex_df160_9 [] rfl rfl
def Rm_J1 : Room := { frames := 2, cells := 0, slots := 0, locals := 43 }
def txC (i : Nat) : Int32 := txB.getD i 0
theorem txC_ok : ∀ i : Fin 77, ((txC i.val &&& 255).toUInt32 % 65536).toInt32 = txC i.val ∧ narrow .char (.int (txC i.val)) = .int (txC i.val) ∧ 32 ≤ (txC i.val).toInt ∧ (txC i.val).toInt ≤ 126 := by decide +kernel
theorem c_J1_charAt (l : Launch) (D : va_G) (tys : List (ClassId × FieldType)) (a v : Nat) (fv : Value) (sz : Nat) (hfv : fv = .null ∨ ∃ t, fv = .ref t) {i : Nat} (hi : i < 77) : Met l yJ1_charAt_3b067 [Cond.code yJ1_charAt_3b067 cJ1_charAt_3b067 2 (some .char)] Rm_J1 (nPre D tys [.ref v, .int (nI i)] [] sz (sX a v fv (va_A [] sz))) (nPost D (va_A [] sz) (some (txC i)) (fun _ => []) 0) 0 0 (va_A [] sz) := by
  refine nc_of (own := RJ1) (by decide) rfl (Nat.le_of_ble_eq_true rfl) (fun J hJ => ?_)
  have hZX : ∀ s meth args below Q, zM yJ1_charAt_3b067.name (some .char) (sX a v fv (va_A [] sz)) (nPost D (va_A [] sz) (some (txC i)) (fun _ => []) 0) 0 0 (va_A [] sz) s meth args below Q → sX a v fv (va_A [] sz) s := fun _ _ _ _ _ h => h.2.2.2.1
  refine nn_iload_n hJ dJ1_charAt_3b067_0 1 rfl rfl ?_
  refine nn_aload_n hJ dJ1_charAt_3b067_1 0 rfl rfl ?_
  refine nn_vlen hJ hZX dJ1_charAt_3b067_2 ?_
  refine nn_xS hJ hZX (As := [.int (nI i), .int (nI 77)]) (rest := []) (r := none) (fun sz => c_J0_check l D tys a v fv sz hfv hi (by decide)) dJ1_charAt_3b067_3 ⟨Nat.le_refl _, Nat.le_refl _⟩ kx_J0_checkIndex_df160 ⟨by decide, by decide, rfl, rfl⟩ (tb1 (i := 184) rfl) (tb1 (i := 185) rfl) rfl rfl (by decide) ?_
  refine nn_aload_n hJ dJ1_charAt_3b067_6 0 rfl rfl ?_
  refine nn_iload_n hJ dJ1_charAt_3b067_7 1 rfl rfl ?_
  refine nn_vget hJ hZX hi dJ1_charAt_3b067_8 ?_
  refine nn_sipush hJ (v := 255) dJ1_charAt_3b067_9 (by decide) ?_
  refine nn_iand hJ dJ1_charAt_3b067_12 ?_
  refine nn_i2c hJ dJ1_charAt_3b067_13 (txC_ok ⟨i, hi⟩).1 ?_
  exact nn_rret hJ (txC_ok ⟨i, hi⟩).2.1 dJ1_charAt_3b067_14 [] rfl rfl
def Rm_J0l : Room := { frames := 0, cells := 0, slots := 0, locals := 0 }
theorem c_J0_coder (l : Launch) (D : va_G) (tys : List (ClassId × FieldType)) (a v : Nat) (fv : Value) (sz : Nat) : Met l yJ0_coder_7d493 [Cond.code yJ0_coder_7d493 cJ0_coder_7d493 1 (some .byte)] Rm_J0l (nPre D tys [.ref a] [] sz (sX a v fv (va_A [] sz))) (nPost D (va_A [] sz) (some 0) (fun _ => []) 0) 0 0 (va_A [] sz) := by
  refine nc_of (own := RJ0) (by decide) rfl (Nat.le_of_ble_eq_true rfl) (fun J hJ => ?_)
  have hZX : ∀ s meth args below Q, zM yJ0_coder_7d493.name (some .byte) (sX a v fv (va_A [] sz)) (nPost D (va_A [] sz) (some 0) (fun _ => []) 0) 0 0 (va_A [] sz) s meth args below Q → sX a v fv (va_A [] sz) s := fun _ _ _ _ _ h => h.2.2.2.1
  refine nn_compact hJ hZX dJ0_coder_7d493_0 (tb1 (i := 171) rfl) ?_
  refine nn_if_eq hJ 13 dJ0_coder_7d493_3 (by decide) (fun q => absurd q (by decide)) (fun _ => ?_)
  refine nn_aload_n hJ dJ0_coder_7d493_6 0 rfl rfl ?_
  refine nn_coder hJ hZX dJ0_coder_7d493_7 (tb4 (i := 199) rfl) ?_
  refine nn_goto hJ 14 dJ0_coder_7d493_10 (by decide) ?_
  exact nn_rret hJ rfl dJ0_coder_7d493_14 [] rfl rfl
theorem c_J0_isLatin1 (l : Launch) (D : va_G) (tys : List (ClassId × FieldType)) (a v : Nat) (fv : Value) (sz : Nat) : Met l yJ0_isLatin1_aae02 [Cond.code yJ0_isLatin1_aae02 cJ0_isLatin1_aae02 1 (some .boolean)] Rm_J0l (nPre D tys [.ref a] [] sz (sX a v fv (va_A [] sz))) (nPost D (va_A [] sz) (some 1) (fun _ => []) 0) 0 0 (va_A [] sz) := by
  refine nc_of (own := RJ0) (by decide) rfl (Nat.le_of_ble_eq_true rfl) (fun J hJ => ?_)
  have hZX : ∀ s meth args below Q, zM yJ0_isLatin1_aae02.name (some .boolean) (sX a v fv (va_A [] sz)) (nPost D (va_A [] sz) (some 1) (fun _ => []) 0) 0 0 (va_A [] sz) s meth args below Q → sX a v fv (va_A [] sz) s := fun _ _ _ _ _ h => h.2.2.2.1
  refine nn_compact hJ hZX dJ0_isLatin1_aae02_0 (tb1 (i := 171) rfl) ?_
  refine nn_if_eq hJ 17 dJ0_isLatin1_aae02_3 (by decide) (fun q => absurd q (by decide)) (fun _ => ?_)
  refine nn_aload_n hJ dJ0_isLatin1_aae02_6 0 rfl rfl ?_
  refine nn_coder hJ hZX dJ0_isLatin1_aae02_7 (tb4 (i := 199) rfl) ?_
  refine nn_if_ne hJ 17 dJ0_isLatin1_aae02_10 (by decide) (fun q => absurd rfl q) (fun _ => ?_)
  refine nn_iconst hJ (v := 1) dJ0_isLatin1_aae02_13 (by decide) ?_
  refine nn_goto hJ 18 dJ0_isLatin1_aae02_14 (by decide) ?_
  exact nn_rret hJ rfl dJ0_isLatin1_aae02_18 [] rfl rfl
def Rm_J0n : Room := { frames := 1, cells := 0, slots := 0, locals := 20 }
theorem c_J0_length (l : Launch) (D : va_G) (tys : List (ClassId × FieldType)) (a v : Nat) (fv : Value) (sz : Nat) : Met l yJ0_length_8abf5 [Cond.code yJ0_length_8abf5 cJ0_length_8abf5 1 (some .int)] Rm_J0n (nPre D tys [.ref a] [] sz (sX a v fv (va_A [] sz))) (nPost D (va_A [] sz) (some 77) (fun _ => []) 0) 0 0 (va_A [] sz) := by
  refine nc_of (own := RJ0) (by decide) rfl (Nat.le_of_ble_eq_true rfl) (fun J hJ => ?_)
  have hZX : ∀ s meth args below Q, zM yJ0_length_8abf5.name (some .int) (sX a v fv (va_A [] sz)) (nPost D (va_A [] sz) (some 77) (fun _ => []) 0) 0 0 (va_A [] sz) s meth args below Q → sX a v fv (va_A [] sz) s := fun _ _ _ _ _ h => h.2.2.2.1
  refine nn_aload_n hJ dJ0_length_8abf5_0 0 rfl rfl ?_
  refine nn_value hJ hZX dJ0_length_8abf5_1 (tb4 (i := 198) rfl) ?_
  refine nn_vlen hJ hZX dJ0_length_8abf5_4 ?_
  refine nn_aload_n hJ dJ0_length_8abf5_5 0 rfl rfl ?_
  refine nn_xV hJ hZX (As := []) (rest := [.int 77]) (r := some 0) (fun sz => c_J0_coder l D tys a v fv sz) dJ0_length_8abf5_6 ⟨Nat.le_refl _, Nat.le_refl _⟩ kx_J0_coder_7d493 ⟨by decide, by decide, rfl, rfl⟩ (tb1 (i := 167) rfl) (tb1 (i := 168) rfl) (tb1 (i := 169) rfl) rfl rfl (by decide) ?_
  refine nn_ishr hJ dJ0_length_8abf5_9 ?_
  exact nn_rret hJ rfl dJ0_length_8abf5_10 [] rfl rfl
def Rm_J0a : Room := { frames := 3, cells := 0, slots := 0, locals := 64 }
theorem c_J0_charAt (l : Launch) (D : va_G) (tys : List (ClassId × FieldType)) (a v : Nat) (fv : Value) (sz : Nat) (hfv : fv = .null ∨ ∃ t, fv = .ref t) {i : Nat} (hi : i < 77) : Met l yJ0_charAt_5068e [Cond.code yJ0_charAt_5068e cJ0_charAt_5068e 2 (some .char)] Rm_J0a (nPre D tys [.ref a, .int (nI i)] [] sz (sX a v fv (va_A [] sz))) (nPost D (va_A [] sz) (some (txC i)) (fun _ => []) 0) 0 0 (va_A [] sz) := by
  refine nc_of (own := RJ0) (by decide) rfl (Nat.le_of_ble_eq_true rfl) (fun J hJ => ?_)
  have hZX : ∀ s meth args below Q, zM yJ0_charAt_5068e.name (some .char) (sX a v fv (va_A [] sz)) (nPost D (va_A [] sz) (some (txC i)) (fun _ => []) 0) 0 0 (va_A [] sz) s meth args below Q → sX a v fv (va_A [] sz) s := fun _ _ _ _ _ h => h.2.2.2.1
  refine nn_aload_n hJ dJ0_charAt_5068e_0 0 rfl rfl ?_
  refine nn_xV hJ hZX (As := []) (rest := []) (r := some 1) (fun sz => c_J0_isLatin1 l D tys a v fv sz) dJ0_charAt_5068e_1 ⟨Nat.le_refl _, Nat.le_refl _⟩ kx_J0_isLatin1_aae02 ⟨by decide, by decide, rfl, rfl⟩ (tb1 (i := 177) rfl) (tb1 (i := 178) rfl) (tb1 (i := 179) rfl) rfl rfl (by decide) ?_
  refine nn_if_eq hJ 16 dJ0_charAt_5068e_4 (by decide) (fun q => absurd q (by decide)) (fun _ => ?_)
  refine nn_aload_n hJ dJ0_charAt_5068e_7 0 rfl rfl ?_
  refine nn_value hJ hZX dJ0_charAt_5068e_8 (tb4 (i := 198) rfl) ?_
  refine nn_iload_n hJ dJ0_charAt_5068e_11 1 rfl rfl ?_
  refine nn_xS hJ hZX (As := [.ref v, .int (nI i)]) (rest := []) (r := some (txC i)) (fun sz => c_J1_charAt l D tys a v fv sz hfv hi) dJ0_charAt_5068e_12 ⟨Nat.le_refl _, Nat.le_refl _⟩ kx_J1_charAt_3b067 ⟨by decide, by decide, rfl, rfl⟩ (tb1 (i := 181) rfl) (tb1 (i := 182) rfl) rfl rfl (by decide) ?_
  exact nn_rret hJ (txC_ok ⟨i, hi⟩).2.1 dJ0_charAt_5068e_15 [] rfl rfl
