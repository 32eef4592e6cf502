/-! Calls: the callee's cells are put back at their places. -/
def selW (ws wc' : va_W) : List (Option Nat) → Nat → List (Option (Nat × va_E))
  | [], _ => []
  | none :: r, k => ws[k]? :: selW ws wc' r (k + 1)
  | some j :: r, k => wc'[j]? :: selW ws wc' r (k + 1)
def selOk (isC : List Nat) : List (Option Nat) → Nat → Bool
  | [], _ => true
  | none :: r, k => decide (k ∉ isC) && selOk isC r (k + 1)
  | some j :: r, k => decide (isC[j]? = some k) && selOk isC r (k + 1)
theorem selW_get (ws wc' : va_W) : ∀ (sel : List (Option Nat)) (s0 k : Nat) (q : Nat × va_E), (selW ws wc' sel s0)[k]? = some (some q) → (∃ j : Nat, sel[k]? = some (some j) ∧ wc'[j]? = some q) ∨ (sel[k]? = some none ∧ ws[s0 + k]? = some q)
  | [], s0, k, q, h => by simp [selW] at h
  | none :: r, s0, 0, q, h => by
    have h : ws[s0]? = some q := by simpa [selW] using h
    exact Or.inr ⟨rfl, h⟩
  | some j :: r, s0, 0, q, h => by
    have h : wc'[j]? = some q := by simpa [selW] using h
    exact Or.inl ⟨j, rfl, h⟩
  | none :: r, s0, k + 1, q, h => by
    have h : (selW ws wc' r (s0 + 1))[k]? = some (some q) := by simpa [selW] using h
    rcases selW_get ws wc' r (s0 + 1) k q h with ⟨j, h1, h2⟩ | ⟨h1, h2⟩
    · exact Or.inl ⟨j, by simpa using h1, h2⟩
    · exact Or.inr ⟨by simpa using h1, by rw [show s0 + (k + 1) = s0 + 1 + k by omega]; exact h2⟩
  | some j0 :: r, s0, k + 1, q, h => by
    have h : (selW ws wc' r (s0 + 1))[k]? = some (some q) := by simpa [selW] using h
    rcases selW_get ws wc' r (s0 + 1) k q h with ⟨j, h1, h2⟩ | ⟨h1, h2⟩
    · exact Or.inl ⟨j, by simpa using h1, h2⟩
    · exact Or.inr ⟨by simpa using h1, by rw [show s0 + (k + 1) = s0 + 1 + k by omega]; exact h2⟩
theorem selOk_some (isC : List Nat) : ∀ (sel : List (Option Nat)) (s0 k j : Nat), selOk isC sel s0 = true → sel[k]? = some (some j) → isC[j]? = some (s0 + k)
  | [], s0, k, j, _, h => by simp at h
  | none :: r, s0, 0, j, _, h => by simp at h
  | some j0 :: r, s0, 0, j, ho, h => by
    have e : j0 = j := by simpa using h
    subst e
    have h1 : isC[j0]? = some s0 ∧ selOk isC r (s0 + 1) = true := by simpa [selOk] using ho
    exact h1.1
  | none :: r, s0, k + 1, j, ho, h => by
    have h1 : s0 ∉ isC ∧ selOk isC r (s0 + 1) = true := by simpa [selOk] using ho
    rw [show s0 + (k + 1) = s0 + 1 + k by omega]
    exact selOk_some isC r (s0 + 1) k j h1.2 (by simpa using h)
  | some j0 :: r, s0, k + 1, j, ho, h => by
    have h1 : isC[j0]? = some s0 ∧ selOk isC r (s0 + 1) = true := by simpa [selOk] using ho
    rw [show s0 + (k + 1) = s0 + 1 + k by omega]
    exact selOk_some isC r (s0 + 1) k j h1.2 (by simpa using h)
theorem selOk_none (isC : List Nat) : ∀ (sel : List (Option Nat)) (s0 k : Nat), selOk isC sel s0 = true → sel[k]? = some none → s0 + k ∉ isC
  | [], s0, k, _, h => by simp at h
  | some j0 :: r, s0, 0, _, h => by simp at h
  | none :: r, s0, 0, ho, h => by
    have h1 : s0 ∉ isC ∧ selOk isC r (s0 + 1) = true := by simpa [selOk] using ho
    exact h1.1
  | none :: r, s0, k + 1, ho, h => by
    have h1 : s0 ∉ isC ∧ selOk isC r (s0 + 1) = true := by simpa [selOk] using ho
    rw [show s0 + (k + 1) = s0 + 1 + k by omega]
    exact selOk_none isC r (s0 + 1) k h1.2 (by simpa using h)
  | some j0 :: r, s0, k + 1, ho, h => by
    have h1 : isC[j0]? = some s0 ∧ selOk isC r (s0 + 1) = true := by simpa [selOk] using ho
    rw [show s0 + (k + 1) = s0 + 1 + k by omega]
    exact selOk_none isC r (s0 + 1) k h1.2 (by simpa using h)
theorem atC_of {ws wc : va_W} {isC : List Nat} (hC : isC.map (fun i => ws[i]?) = wc.map some) (j : Nat) (q : Nat × va_E) (hq : wc[j]? = some q) : ∃ i, isC[j]? = some i ∧ ws[i]? = some q := by
  have h1 : (isC.map (fun i => ws[i]?))[j]? = some (some q) := by rw [hC, List.getElem?_map, hq]; rfl
  rw [List.getElem?_map] at h1
  cases hi : isC[j]? with
  | none => rw [hi] at h1; cases h1
  | some i => rw [hi] at h1; exact ⟨i, rfl, Option.some.inj h1⟩
/-- the new world wn: at each place what stood there, or the callee's cell of that number -/
def jNew (ws wc wc' wn : va_W) (isC : List Nat) : Prop := ∀ (k : Nat) (q : Nat × va_E), wn[k]? = some q → (∃ j : Nat, isC[j]? = some k ∧ wc'[j]? = some q ∧ ∃ q0, wc[j]? = some q0 ∧ q0.1 = q.1) ∨ (ws[k]? = some q ∧ k ∉ isC)
theorem jNew_sel {ws wc wc' wn : va_W} {isC : List Nat} (ha : wc'.map Prod.fst = wc.map Prod.fst) (sel : List (Option Nat)) (hok : selOk isC sel 0 = true) (hs : selW ws wc' sel 0 = wn.map some) : jNew ws wc wc' wn isC := by
  intro k q hk
  have h1 : (selW ws wc' sel 0)[k]? = some (some q) := by rw [hs, List.getElem?_map, hk]; rfl
  rcases selW_get ws wc' sel 0 k q h1 with ⟨j, h2, h3⟩ | ⟨h2, h3⟩
  · have h4 := selOk_some isC sel 0 k j hok h2
    rw [Nat.zero_add] at h4
    have hj : (wc.map Prod.fst)[j]? = some q.1 := by rw [← ha, List.getElem?_map, h3]; rfl
    rw [List.getElem?_map] at hj
    cases hw : wc[j]? with
    | none => rw [hw] at hj; cases hj
    | some q0 => rw [hw] at hj; exact Or.inl ⟨j, h4, h3, q0, hw, Option.some.inj hj⟩
  · have h4 := selOk_none isC sel 0 k hok h2
    rw [Nat.zero_add] at h3 h4
    exact Or.inr ⟨h3, h4⟩
theorem put_world {A : Nat → Prop} {D : va_G} {ws wc wc' wn : va_W} {isC : List Nat} {H H1 : Heap} (hP : va_P D vwCl ws H) (hD : va_D A ws) (hC : isC.map (fun i => ws[i]?) = wc.map some) (hN : jNew ws wc wc' wn isC)
    (hk : ∀ q : Nat, q < H.size → ¬ aS wc q → H1[q]? = H[q]?) (hP1 : va_P D vwCl wc' H1) : va_P D vwCl wn H1 ∧ va_D A wn := by
  have old : ∀ (k : Nat) (q : Nat × va_E), wn[k]? = some q → ∃ q0, ws[k]? = some q0 ∧ q0.1 = q.1 := by
    intro k q h
    rcases hN k q h with ⟨j, h1, h2, q0, h3, h4⟩ | ⟨h1, -⟩
    · obtain ⟨i, h5, h6⟩ := atC_of hC j q0 h3
      have : i = k := Option.some.inj (h5.symm.trans h1)
      subst this
      exact ⟨q0, h6, h4⟩
    · exact ⟨q, h1, rfl⟩
  refine ⟨fun k q h => ?_, fun i j x y hi hj hxy => ?_, fun k q h => ?_⟩
  · rcases hN k q h with ⟨j, h1, h2, -⟩ | ⟨h1, h2⟩
    · exact hP1 j q h2
    · refine (hP k q h1).kept (hk q.1 ((hP k q h1).lt) ?_)
      rintro ⟨j, e, hj⟩
      obtain ⟨i, h3, h4⟩ := atC_of hC j _ hj
      have := hD.1 k i q (q.1, e) h1 h4 rfl
      subst this
      exact h2 (List.mem_of_getElem? h3)
  · obtain ⟨x0, h1, h2⟩ := old i x hi
    obtain ⟨y0, h3, h4⟩ := old j y hj
    exact hD.1 i j x0 y0 h1 h3 (h2.trans (hxy.trans h4.symm))
  · obtain ⟨q0, h1, h2⟩ := old k q h
    rw [← h2]
    exact hD.2 k q0 h1
theorem keep_world {A : Nat → Prop} {D : va_G} {ws wc : va_W} {isC : List Nat} {H H1 : Heap} (hP : va_P D vwCl ws H) (hD : va_D A ws) (hC : isC.map (fun i => ws[i]?) = wc.map some)
    (hk : ∀ q : Nat, q < H.size → ¬ aS wc q → H1[q]? = H[q]?) (hP1 : va_P D vwCl wc H1) : va_P D vwCl ws H1 := by
  intro k q h
  by_cases hq : aS wc q.1
  · obtain ⟨j, e, hj⟩ := hq
    obtain ⟨i, h3, h4⟩ := atC_of hC j _ hj
    have := hD.1 k i q (q.1, e) h h4 rfl
    subst this
    have e9 : q = (q.1, e) := Option.some.inj (h.symm.trans h4)
    rw [e9]
    exact hP1 j _ hj
  · exact (hP k q h).kept (hk q.1 ((hP k q h).lt) hq)
theorem cPre_blind {D : va_G} {tys : List (ClassId × FieldType)} {av : List Value} {ws : va_W} : FrameBlind (cPre D tys av ws) := fun _ U g mk h => ⟨h.1, h.2.1, jK.warm (U := U.calling g mk _) (State.WarmedH.refl U) h.2.2.1, h.2.2.2⟩
theorem sub_D {A : Nat → Prop} {ws wc : va_W} {isC : List Nat} (hD : va_D A ws) (hnd : va_nd isC = true) (hC : isC.map (fun i => ws[i]?) = wc.map some) : va_D (fun _ => True) wc := (hD.sub isC hnd hC).weaken (fun _ _ _ _ => trivial)
theorem sub_P {D : va_G} {ws wc : va_W} {isC : List Nat} {H : Heap} (hP : va_P D vwCl ws H) (hC : isC.map (fun i => ws[i]?) = wc.map some) : va_P D vwCl wc H := by
  intro k q hk
  have h1 : (isC.map (fun i => ws[i]?))[k]? = some (some q) := by rw [hC, List.getElem?_map, hk]; rfl
  rw [List.getElem?_map] at h1
  cases hi : isC[k]? with
  | none => rw [hi] at h1; cases h1
  | some i => rw [hi] at h1; exact hP i q (Option.some.inj h1)
theorem sub_A {A : Nat → Prop} {ws wc : va_W} {isC : List Nat} (hD : va_D A ws) (hC : isC.map (fun i => ws[i]?) = wc.map some) : ∀ q, aS wc q → A q := by
  rintro q ⟨k, e, hk⟩
  have h1 : (isC.map (fun i => ws[i]?))[k]? = some (some (q, e)) := by rw [hC, List.getElem?_map, hk]; rfl
  rw [List.getElem?_map] at h1
  cases hi : isC[k]? with
  | none => rw [hi] at h1; cases h1
  | some i => rw [hi] at h1; exact hD.2 i _ (Option.some.inj h1)
/-- what a method's call wants of the tables -/
def cwOk (y : MethodName) (bytes : ByteArray) (maxL : Nat) (rty : Option FieldType) (n : Nat) : Prop := Cond.code y bytes maxL rty ∈ lw_tbl ∧ Cond.initialized y.cls ∈ lw_tbl ∧ y.cls ≠ "java/lang/invoke/MethodHandle" ∧ y.cls ≠ "java/lang/invoke/VarHandle" ∧ (parseMethodDescriptor y.desc).map (fun d => d.parameters.length) = some n
def cwRm (R Rc : Room) (maxL : Nat) : Prop := Rc.frames + 1 ≤ R.frames ∧ 8 + (maxL + 11) + Rc.locals ≤ R.locals ∧ Rc.cells = 0 ∧ Rc.slots = 0
section JC
variable {l : Launch} {cc : ByteArray} {nL : Nat} {D : va_G} {tys : List (ClassId × FieldType)} {own : String} {R : Room} {rt : Option FieldType} {A : Nat → Prop} {ro : Option Int32} {wf : va_W} {J : jT} {ws : va_W} {pc : Nat} {lv : List (Nat × Value)} {st : List Value}
theorem jcB {s : State} {args : Array Value} {y : MethodName} {bytes : ByteArray} {maxL n index : Nat} {rty : Option FieldType} {Rc : Room} (hK : jK D tys s) (ho : cwOk y bytes maxL rty n) (hR : cwRm R Rc maxL) (h1 : Cond.methodLink own index y ∈ lw_tbl) : CallB R s args own index y bytes maxL rty [Cond.code y bytes maxL rty] Rc 0 0 n := by
  refine ⟨hR.2.2.1, hR.2.2.2, hR.1, hR.2.1, fun w hw a' U hW => ?_, List.mem_cons_self, hK.2.1 _ ho.1 rfl args, hK.2.1 _ ho.2.1 rfl args, ⟨ho.2.2.1, ho.2.2.2.1⟩, fun sig h => ?_, hK.2.1 _ h1 rfl args⟩
  · cases List.mem_singleton.mp hw
    exact (hK.2.1.warm hW) _ ho.1 rfl a'
  · have h2 := ho.2.2.2.2
    rw [h] at h2
    exact (Option.some.inj h2).symm
theorem jcN {s : State} {args : Array Value} {y : MethodName} {bytes : ByteArray} {maxL n index : Nat} {host : String} {rty : Option FieldType} {Rc : Room} (hK : jK D tys s) (ho : cwOk y bytes maxL rty n) (hR : cwRm R Rc maxL) (h1 : (own, index, y, host) ∈ nestM) : va_CN R s args own index y host bytes maxL rty [Cond.code y bytes maxL rty] Rc 0 0 n := by
  refine ⟨⟨hR.2.2.1, hR.2.2.2, hR.1, hR.2.1, fun w hw a' U hW => ?_, List.mem_cons_self⟩, hK.2.1 _ ho.1 rfl args, hK.2.1 _ ho.2.1 rfl args, ⟨ho.2.2.1, ho.2.2.2.1⟩, fun sig h => ?_, va_Nw.use rfl (hK.2.2.2 _ h1)⟩
  · cases List.mem_singleton.mp hw
    exact (hK.2.1.warm hW) _ ho.1 rfl a'
  · have h2 := ho.2.2.2.2
    rw [h] at h2
    exact (Option.some.inj h2).symm
theorem jRun {p : Program} {e : Env} {s : State} {m : MethodId} {args : Array Value} {below : List Frame} {meth : Method} {c : Code} {H : Heap} {locs : List Loc} {ls : Array Slot} {Q : State → Prop} {st0 rest : List Value} {wc wc' wn : va_W} {r : Option Int32} {isC : List Nat} {a : Array Value}
    (hr : va_Run p l e R s m args below meth c H locs 0 0 0 0 (F0 m pc ls st0) rest (cPost D (aS wc) r wc' a) (aS wc)) (hP : va_P D vwCl ws H) (hD : va_D A ws) (hS : va_S A s.heap H locs) (hC : isC.map (fun i => ws[i]?) = wc.map some) (hN : jNew ws wc wc' wn isC)
    (kk : ∀ (H1 : Heap) (locs1 : List Loc), va_P D vwCl wn H1 → va_D A wn → va_S A s.heap H1 locs1 → W p l e R s m args below meth c H1 locs1 0 0 Q (F0 m (pc + 3) ls ((r.map Value.int).toList ++ rest))) : W p l e R s m args below meth c H locs 0 0 Q (F0 m pc ls st0) := by
  intro T hT X
  obtain ⟨v, st₀, t, T', L, h0, X', hL, e1, e2, ⟨hv, hP1, hz, hk⟩, stp⟩ := hr T hT X
  have hv' : v = r.map Value.int := by cases hv; rfl
  subst hv'
  rw [h0] at hz hk
  rw [← e1] at hP1 hz hk
  obtain ⟨hP2, hD2⟩ := put_world (isC := isC) hP hD hC hN hk hP1
  have hS2 : va_S A s.heap T'.heap (locs ++ L) := ⟨Nat.le_trans hS.1 hz, fun q h1 h2 => by rw [hk q (Nat.lt_of_lt_of_le h1 hS.1) (fun z => h2 (sub_A hD hC q z))]; exact hS.2.1 q h1 h2, fun q hq => (List.mem_append.mp hq).elim (hS.2.2 q) (fun h => sub_A hD hC _ (hL q h))⟩
  obtain ⟨t2, a1, b1⟩ := kk T'.heap (locs ++ L) hP2 hD2 hS2 T' rfl X'
  exact ⟨t2, stp t2 a1, b1⟩
theorem jRun0 {p : Program} {e : Env} {s : State} {m : MethodId} {args : Array Value} {below : List Frame} {meth : Method} {c : Code} {H : Heap} {locs : List Loc} {ls : Array Slot} {Q : State → Prop} {st0 rest : List Value} {wc : va_W} {r : Option Int32} {isC : List Nat} {a : Array Value}
    (hr : va_Run p l e R s m args below meth c H locs 0 0 0 0 (F0 m pc ls st0) rest (cPost D (aS wc) r wc a) (aS wc)) (hP : va_P D vwCl ws H) (hD : va_D A ws) (hS : va_S A s.heap H locs) (hC : isC.map (fun i => ws[i]?) = wc.map some)
    (kk : ∀ (H1 : Heap) (locs1 : List Loc), va_P D vwCl ws H1 → va_S A s.heap H1 locs1 → W p l e R s m args below meth c H1 locs1 0 0 Q (F0 m (pc + 3) ls ((r.map Value.int).toList ++ rest))) : W p l e R s m args below meth c H locs 0 0 Q (F0 m pc ls st0) := by
  intro T hT X
  obtain ⟨v, st₀, t, T', L, h0, X', hL, e1, e2, ⟨hv, hP1, hz, hk⟩, stp⟩ := hr T hT X
  have hv' : v = r.map Value.int := by cases hv; rfl
  subst hv'
  rw [h0] at hz hk
  rw [← e1] at hP1 hz hk
  have hP2 := keep_world (isC := isC) hP hD hC hk hP1
  have hS2 : va_S A s.heap T'.heap (locs ++ L) := ⟨Nat.le_trans hS.1 hz, fun q h1 h2 => by rw [hk q (Nat.lt_of_lt_of_le h1 hS.1) (fun z => h2 (sub_A hD hC q z))]; exact hS.2.1 q h1 h2, fun q hq => (List.mem_append.mp hq).elim (hS.2.2 q) (fun h => sub_A hD hC _ (hL q h))⟩
  obtain ⟨t2, a1, b1⟩ := kk T'.heap (locs ++ L) hP2 hS2 T' rfl X'
  exact ⟨t2, stp t2 a1, b1⟩
theorem jj_callV (hJ : jJ l cc nL D tys own R rt A ro wf J) {y : MethodName} {bytes : ByteArray} {maxL n index b ci N : Nat} {rty : Option FieldType} {Rc : Room} {As rest : List Value} {wc wc' wn : va_W} {r : Option Int32} {C : String} {T : u_T} {fs : List Value}
    (hM : MJ l y bytes maxL rty Rc D tys (.ref b :: As) wc r wc') (hd : decode cc pc = .ok (.invokevirtual index, 3)) (hk : cwOk y bytes maxL rty n) (hR : cwRm R Rc maxL) (h1 : Cond.methodLink own index y ∈ lw_tbl) (h2 : Cond.instanceMethod y ∈ lw_tbl) (h3 : Cond.selects C y y ∈ lw_tbl)
    (q0 : Nat) (he : ws[q0]? = some (b, .inr (ci, fs))) (hc : vwCl[ci]? = some (C, T, N)) (hn : As.length = n) (hst : As.reverse ++ .ref b :: rest = st) (hroom : (rest.map fun v => v.category).sum ≤ 8) (isC : List Nat) (hC : isC.map (fun i => ws[i]?) = wc.map some) (hnd : va_nd isC = true) (hN : jNew ws wc wc' wn isC)
    (kk : J wn (pc + 3) lv ((r.map Value.int).toList ++ rest)) : J ws pc lv st := by
  subst hst
  obtain ⟨p, e, s, m, args, below, meth, c, hx, hb, hml, ho, hK, hr, hlk, rfl⟩ := hJ
  intro H locs ls hP hD hS hl
  exact jRun (va_runV (Ts := []) (As := As) (rest := rest) ⟨hx, hb, hml, ho, fun _ h => absurd h List.not_mem_nil⟩ hM ⟨jcB hK hk hR h1, hK.2.1 _ h2 rfl args, hK.2.1 _ h3 rfl args⟩ ⟨cPre_blind, va_recv hK.1 hP hc he, fun U hU hW => ⟨rfl, by rw [hU]; exact sub_P hP hC, hK.warm hW, sub_D hD hnd hC⟩⟩ rfl hn hl.1 rfl (lv_room hroom) hd ⟨Nat.zero_le _, Nat.zero_le _⟩) hP hD hS hC hN (fun H locs hP hD hS => kk H locs ls hP hD hS hl)
theorem jj_callN (hJ : jJ l cc nL D tys own R rt A ro wf J) {y : MethodName} {bytes : ByteArray} {maxL n index b ci N : Nat} {rty : Option FieldType} {Rc : Room} {As rest : List Value} {wc wc' wn : va_W} {r : Option Int32} {C host : String} {T : u_T} {fs : List Value}
    (hM : MJ l y bytes maxL rty Rc D tys (.ref b :: As) wc r wc') (hd : decode cc pc = .ok (.invokevirtual index, 3)) (hk : cwOk y bytes maxL rty n) (hR : cwRm R Rc maxL) (h1 : (own, index, y, host) ∈ nestM) (h2 : Cond.instanceMethod y ∈ lw_tbl) (h3 : Cond.selects C y y ∈ lw_tbl)
    (q0 : Nat) (he : ws[q0]? = some (b, .inr (ci, fs))) (hc : vwCl[ci]? = some (C, T, N)) (hn : As.length = n) (hst : As.reverse ++ .ref b :: rest = st) (hroom : (rest.map fun v => v.category).sum ≤ 8) (isC : List Nat) (hC : isC.map (fun i => ws[i]?) = wc.map some) (hnd : va_nd isC = true) (hN : jNew ws wc wc' wn isC)
    (kk : J wn (pc + 3) lv ((r.map Value.int).toList ++ rest)) : J ws pc lv st := by
  subst hst
  obtain ⟨p, e, s, m, args, below, meth, c, hx, hb, hml, ho, hK, hr, hlk, rfl⟩ := hJ
  intro H locs ls hP hD hS hl
  exact jRun (va_runVN (Ts := []) (C := C) (As := As) (rest := rest) ⟨hx, hb, hml, ho, fun _ h => absurd h List.not_mem_nil⟩ hM ⟨jcN hK hk hR h1, hK.2.1 _ h2 rfl args, hK.2.1 _ h3 rfl args⟩ ⟨cPre_blind, va_recv hK.1 hP hc he, fun U hU hW => ⟨rfl, by rw [hU]; exact sub_P hP hC, hK.warm hW, sub_D hD hnd hC⟩⟩ rfl hn hl.1 rfl (lv_room hroom) hd ⟨Nat.zero_le _, Nat.zero_le _⟩) hP hD hS hC hN (fun H locs hP hD hS => kk H locs ls hP hD hS hl)
theorem jj_callS (hJ : jJ l cc nL D tys own R rt A ro wf J) {y : MethodName} {bytes : ByteArray} {maxL n index : Nat} {rty : Option FieldType} {Rc : Room} {As rest : List Value} {wc wc' wn : va_W} {r : Option Int32}
    (hM : MJ l y bytes maxL rty Rc D tys As wc r wc') (hd : decode cc pc = .ok (.invokestatic index, 3)) (hk : cwOk y bytes maxL rty n) (hR : cwRm R Rc maxL) (h1 : Cond.methodLink own index y ∈ lw_tbl) (h2 : Cond.static y ∈ lw_tbl)
    (hn : As.length = n) (hst : As.reverse ++ rest = st) (hroom : (rest.map fun v => v.category).sum ≤ 8) (isC : List Nat) (hC : isC.map (fun i => ws[i]?) = wc.map some) (hnd : va_nd isC = true) (hN : jNew ws wc wc' wn isC)
    (kk : J wn (pc + 3) lv ((r.map Value.int).toList ++ rest)) : J ws pc lv st := by
  subst hst
  obtain ⟨p, e, s, m, args, below, meth, c, hx, hb, hml, ho, hK, hr, hlk, rfl⟩ := hJ
  intro H locs ls hP hD hS hl
  exact jRun (va_runS (Ts := []) (As := As) (rest := rest) ⟨hx, hb, hml, ho, fun _ h => absurd h List.not_mem_nil⟩ hM ⟨jcB hK hk hR h1, hK.2.1 _ h2 rfl args⟩ ⟨cPre_blind, fun U hU hW => ⟨rfl, by rw [hU]; exact sub_P hP hC, hK.warm hW, sub_D hD hnd hC⟩⟩ rfl hn hl.1 rfl (lv_room hroom) hd ⟨Nat.zero_le _, Nat.zero_le _⟩) hP hD hS hC hN (fun H locs hP hD hS => kk H locs ls hP hD hS hl)
theorem jj_callV0 (hJ : jJ l cc nL D tys own R rt A ro wf J) {y : MethodName} {bytes : ByteArray} {maxL n index b ci N : Nat} {rty : Option FieldType} {Rc : Room} {As rest : List Value} {wc : va_W} {r : Option Int32} {C : String} {T : u_T} {fs : List Value}
    (hM : MJ l y bytes maxL rty Rc D tys (.ref b :: As) wc r wc) (hd : decode cc pc = .ok (.invokevirtual index, 3)) (hk : cwOk y bytes maxL rty n) (hR : cwRm R Rc maxL) (h1 : Cond.methodLink own index y ∈ lw_tbl) (h2 : Cond.instanceMethod y ∈ lw_tbl) (h3 : Cond.selects C y y ∈ lw_tbl)
    (q0 : Nat) (he : ws[q0]? = some (b, .inr (ci, fs))) (hc : vwCl[ci]? = some (C, T, N)) (hn : As.length = n) (hst : As.reverse ++ .ref b :: rest = st) (hroom : (rest.map fun v => v.category).sum ≤ 8) (isC : List Nat) (hC : isC.map (fun i => ws[i]?) = wc.map some) (hnd : va_nd isC = true)
    (kk : J ws (pc + 3) lv ((r.map Value.int).toList ++ rest)) : J ws pc lv st := by
  subst hst
  obtain ⟨p, e, s, m, args, below, meth, c, hx, hb, hml, ho, hK, hr, hlk, rfl⟩ := hJ
  intro H locs ls hP hD hS hl
  exact jRun0 (va_runV (Ts := []) (As := As) (rest := rest) ⟨hx, hb, hml, ho, fun _ h => absurd h List.not_mem_nil⟩ hM ⟨jcB hK hk hR h1, hK.2.1 _ h2 rfl args, hK.2.1 _ h3 rfl args⟩ ⟨cPre_blind, va_recv hK.1 hP hc he, fun U hU hW => ⟨rfl, by rw [hU]; exact sub_P hP hC, hK.warm hW, sub_D hD hnd hC⟩⟩ rfl hn hl.1 rfl (lv_room hroom) hd ⟨Nat.zero_le _, Nat.zero_le _⟩) hP hD hS hC (fun H locs hP hS => kk H locs ls hP hD hS hl)
theorem jj_callN0 (hJ : jJ l cc nL D tys own R rt A ro wf J) {y : MethodName} {bytes : ByteArray} {maxL n index b ci N : Nat} {rty : Option FieldType} {Rc : Room} {As rest : List Value} {wc : va_W} {r : Option Int32} {C host : String} {T : u_T} {fs : List Value}
    (hM : MJ l y bytes maxL rty Rc D tys (.ref b :: As) wc r wc) (hd : decode cc pc = .ok (.invokevirtual index, 3)) (hk : cwOk y bytes maxL rty n) (hR : cwRm R Rc maxL) (h1 : (own, index, y, host) ∈ nestM) (h2 : Cond.instanceMethod y ∈ lw_tbl) (h3 : Cond.selects C y y ∈ lw_tbl)
    (q0 : Nat) (he : ws[q0]? = some (b, .inr (ci, fs))) (hc : vwCl[ci]? = some (C, T, N)) (hn : As.length = n) (hst : As.reverse ++ .ref b :: rest = st) (hroom : (rest.map fun v => v.category).sum ≤ 8) (isC : List Nat) (hC : isC.map (fun i => ws[i]?) = wc.map some) (hnd : va_nd isC = true)
    (kk : J ws (pc + 3) lv ((r.map Value.int).toList ++ rest)) : J ws pc lv st := by
  subst hst
  obtain ⟨p, e, s, m, args, below, meth, c, hx, hb, hml, ho, hK, hr, hlk, rfl⟩ := hJ
  intro H locs ls hP hD hS hl
  exact jRun0 (va_runVN (Ts := []) (C := C) (As := As) (rest := rest) ⟨hx, hb, hml, ho, fun _ h => absurd h List.not_mem_nil⟩ hM ⟨jcN hK hk hR h1, hK.2.1 _ h2 rfl args, hK.2.1 _ h3 rfl args⟩ ⟨cPre_blind, va_recv hK.1 hP hc he, fun U hU hW => ⟨rfl, by rw [hU]; exact sub_P hP hC, hK.warm hW, sub_D hD hnd hC⟩⟩ rfl hn hl.1 rfl (lv_room hroom) hd ⟨Nat.zero_le _, Nat.zero_le _⟩) hP hD hS hC (fun H locs hP hS => kk H locs ls hP hD hS hl)
theorem jj_callS0 (hJ : jJ l cc nL D tys own R rt A ro wf J) {y : MethodName} {bytes : ByteArray} {maxL n index : Nat} {rty : Option FieldType} {Rc : Room} {As rest : List Value} {wc : va_W} {r : Option Int32}
    (hM : MJ l y bytes maxL rty Rc D tys As wc r wc) (hd : decode cc pc = .ok (.invokestatic index, 3)) (hk : cwOk y bytes maxL rty n) (hR : cwRm R Rc maxL) (h1 : Cond.methodLink own index y ∈ lw_tbl) (h2 : Cond.static y ∈ lw_tbl)
    (hn : As.length = n) (hst : As.reverse ++ rest = st) (hroom : (rest.map fun v => v.category).sum ≤ 8) (isC : List Nat) (hC : isC.map (fun i => ws[i]?) = wc.map some) (hnd : va_nd isC = true)
    (kk : J ws (pc + 3) lv ((r.map Value.int).toList ++ rest)) : J ws pc lv st := by
  subst hst
  obtain ⟨p, e, s, m, args, below, meth, c, hx, hb, hml, ho, hK, hr, hlk, rfl⟩ := hJ
  intro H locs ls hP hD hS hl
  exact jRun0 (va_runS (Ts := []) (As := As) (rest := rest) ⟨hx, hb, hml, ho, fun _ h => absurd h List.not_mem_nil⟩ hM ⟨jcB hK hk hR h1, hK.2.1 _ h2 rfl args⟩ ⟨cPre_blind, fun U hU hW => ⟨rfl, by rw [hU]; exact sub_P hP hC, hK.warm hW, sub_D hD hnd hC⟩⟩ rfl hn hl.1 rfl (lv_room hroom) hd ⟨Nat.zero_le _, Nat.zero_le _⟩) hP hD hS hC (fun H locs hP hS => kk H locs ls hP hD hS hl)
end JC
