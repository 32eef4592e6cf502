/-! Calls of what makes cells. -/
def cwRn (R Rc : Room) (maxL mc ms : Nat) : Prop := Rc.frames + 1 ≤ R.frames ∧ 8 + (maxL + 11) + Rc.locals ≤ R.locals ∧ Rc.cells = mc ∧ Rc.slots = ms
section NI
variable {l : Launch} {cc : ByteArray} {nL : Nat} {D : va_G} {tys : List (ClassId × FieldType)} {own : String} {R : Room} {A : Nat → Prop} {Z : nZ} {J : nT} {ws : va_W} {pc : Nat} {lv : List (Nat × Value)} {st : List Value} {ck cs : Nat}
theorem jcBn {s : State} {args : Array Value} {y : MethodName} {bytes : ByteArray} {maxL n index mc ms : Nat} {rty : Option FieldType} {Rc : Room} (hK : jK D tys s) (ho : cwOk y bytes maxL rty n) (hR : cwRn R Rc maxL mc ms) (h1 : Cond.methodLink own index y ∈ lw_tbl) : CallB R s args own index y bytes maxL rty [Cond.code y bytes maxL rty] Rc mc ms n := by
  refine ⟨hR.2.2.1, hR.2.2.2, hR.1, hR.2.1, fun w hw a' U hW => ?_, List.mem_cons_self, hK.2.1 _ ho.1 rfl args, hK.2.1 _ ho.2.1 rfl args, ⟨ho.2.2.1, ho.2.2.2.1⟩, fun sig h => ?_, hK.2.1 _ h1 rfl args⟩
  · cases List.mem_singleton.mp hw
    exact (hK.2.1.warm hW) _ ho.1 rfl a'
  · have h2 := ho.2.2.2.2
    rw [h] at h2
    exact (Option.some.inj h2).symm
theorem jcNn {s : State} {args : Array Value} {y : MethodName} {bytes : ByteArray} {maxL n index mc ms : Nat} {host : String} {rty : Option FieldType} {Rc : Room} (hK : jK D tys s) (ho : cwOk y bytes maxL rty n) (hR : cwRn R Rc maxL mc ms) (h1 : (own, index, y, host) ∈ nestM) : va_CN R s args own index y host bytes maxL rty [Cond.code y bytes maxL rty] Rc mc ms n := by
  refine ⟨⟨hR.2.2.1, hR.2.2.2, hR.1, hR.2.1, fun w hw a' U hW => ?_, List.mem_cons_self⟩, hK.2.1 _ ho.1 rfl args, hK.2.1 _ ho.2.1 rfl args, ⟨ho.2.2.1, ho.2.2.2.1⟩, fun sig h => ?_, va_Nw.use rfl (hK.2.2.2 _ h1)⟩
  · cases List.mem_singleton.mp hw
    exact (hK.2.1.warm hW) _ ho.1 rfl a'
  · have h2 := ho.2.2.2.2
    rw [h] at h2
    exact (Option.some.inj h2).symm
theorem nRunI {p : Program} {e : Env} {s : State} {m : MethodId} {args : Array Value} {below : List Frame} {meth : Method} {c : Code} {H : Heap} {locs : List Loc} {ls : Array Slot} {Q : State → Prop} {st0 rest : List Value} {a : Array Value} {b q0 k mc ms : Nat} {e0 : va_E} {F : List Nat → va_W} {e1 : List Nat → va_E} {tl : List Nat → va_W}
    (hr : va_Run p l e R s m args below meth c H locs ck cs mc ms (F0 m pc ls st0) rest (nPost D (va_A [(b, e0)] H.size) none F k a) (va_A [(b, e0)] H.size)) (hP : va_P D vwCl ws H) (hD : va_D A ws) (hS : va_S A s.heap H locs) (hA : ∀ q : Nat, s.heap.size ≤ q → A q) (hq0 : ws[q0]? = some (b, e0)) (hF : ∀ qs, F qs = (b, e1 qs) :: tl qs)
    (kk : ∀ qs : List Nat, qs.length = k → ∀ (H1 : Heap) (locs1 : List Loc), va_P D vwCl (ws.set q0 (b, e1 qs) ++ tl qs) H1 → va_D A (ws.set q0 (b, e1 qs) ++ tl qs) → va_S A s.heap H1 locs1 → W p l e R s m args below meth c H1 locs1 (ck + mc) (cs + ms) Q (F0 m (pc + 3) ls rest)) : W p l e R s m args below meth c H locs ck cs Q (F0 m pc ls st0) := by
  intro T hT X
  obtain ⟨v, st₀, t, T', L, h0, X', hL, e1', e2, ⟨hv, qs, hql, hP1, hD1, hz, hk⟩, stp⟩ := hr T hT X
  have hv' : v = none := by cases hv; rfl
  subst hv'
  rw [h0] at hz hk
  rw [← e1'] at hP1 hz hk
  rw [hF] at hP1 hD1
  obtain ⟨hP2, hD2⟩ := put_new hP hD hq0 hP1 hD1 hk (fun q hq => hA q (Nat.le_trans hS.1 hq))
  have hbA : A b := hD.2 q0 _ hq0
  have inA : ∀ q, va_A [(b, e0)] H.size q → A q := by
    rintro q (⟨j, e, hj⟩ | hj)
    · have hj0 : j = 0 := by
        rcases j with _ | j
        · rfl
        · simp at hj
      subst hj0
      have h9 : (b, e0) = (q, e) := by simpa using hj
      cases h9
      exact hbA
    · exact hA q (Nat.le_trans hS.1 hj)
  have hS2 : va_S A s.heap T'.heap (locs ++ L) := ⟨Nat.le_trans hS.1 hz, fun q h1 h2 => by rw [hk q (Nat.lt_of_lt_of_le h1 hS.1) (fun z => h2 (inA q z))]; exact hS.2.1 q h1 h2, fun q hq => (List.mem_append.mp hq).elim (hS.2.2 q) (fun h => inA _ (hL q h))⟩
  obtain ⟨t2, a1, b1⟩ := kk qs hql T'.heap (locs ++ L) hP2 hD2 hS2 T' rfl X'
  exact ⟨t2, stp t2 a1, b1⟩
theorem one_D {A : Nat → Prop} {b q0 : Nat} {e0 : va_E} (hD : va_D A ws) (hq0 : ws[q0]? = some (b, e0)) : va_D (fun _ => True) [(b, e0)] := (hD.sub (ws' := [(b, e0)]) [q0] (by rfl) (by simp [hq0])).weaken (fun _ _ _ _ => trivial)
theorem one_P {H : Heap} {b q0 : Nat} {e0 : va_E} (hP : va_P D vwCl ws H) (hq0 : ws[q0]? = some (b, e0)) : va_P D vwCl [(b, e0)] H := hP.sub (ws' := [(b, e0)]) [q0] (by simp [hq0])
/-- a nest mate's constructor -/
theorem nn_initN (hJ : nJ l cc nL D tys own R A Z J) {y : MethodName} {bytes : ByteArray} {maxL index b q0 k mc ms : Nat} {host : String} {Rc : Room} {e0 : va_E} {F : List Nat → va_W} {e1 : List Nat → va_E} {tl : List Nat → va_W} {X : State → Prop}
    (hM : ∀ sz, Met l y [Cond.code y bytes maxL none] Rc (nPre D tys [.ref b] [(b, e0)] sz X) (nPost D (va_A [(b, e0)] sz) none F k) mc ms (va_A [(b, e0)] sz)) (hX : ∀ (U : State) g mk a, X U → X (U.calling g mk a)) (hZX : ∀ s meth args below Q, Z s meth args below Q → ∀ U : State, s.WarmedH U.vm → X U)
    (hd : decode cc pc = .ok (.invokespecial index, 3)) (hk : cwOk y bytes maxL none 0) (hy : y.name = "<init>") (hR : cwRn R Rc maxL mc ms) (h1 : (own, index, y, host) ∈ nestM) (h2 : Cond.instanceMethod y ∈ lw_tbl) (hq0 : ws[q0]? = some (b, e0)) (hF : ∀ qs, F qs = (b, e1 qs) :: tl qs) (hroom : (st.map fun v => v.category).sum ≤ 8) (hcc : ck + mc ≤ R.cells ∧ cs + ms ≤ R.slots)
    (kk : ∀ qs : List Nat, qs.length = k → J (ck + mc) (cs + ms) (ws.set q0 (b, e1 qs) ++ tl qs) (pc + 3) lv st) : J ck cs ws pc lv (.ref b :: st) := by
  obtain ⟨p, e, s, m, args, below, meth, c, Q, hx, hb, hml, ho, hK, hA, hZ, rfl⟩ := hJ
  intro H locs ls hP hD hS hl
  exact nRunI (va_runIN (Ts := []) (As := []) (rest := st) ⟨hx, hb, hml, ho, fun _ h => absurd h List.not_mem_nil⟩ (hM H.size) ⟨jcNn hK hk hR h1, hy, hK.2.1 _ h2 rfl args⟩ ⟨nPre_blind hX, fun U hU hW => ⟨rfl, by rw [hU], by rw [hU]; exact one_P hP hq0, hK.warm hW, one_D hD hq0, hZX _ _ _ _ _ hZ U hW⟩⟩ rfl rfl hl.1 rfl (lv_room hroom) hd hcc) hP hD hS hA hq0 hF (fun qs hqs H locs hP hD hS => kk qs hqs H locs ls hP hD hS hl)
/-- a public constructor, with what must hold of the heap besides -/
theorem nn_initP (hJ : nJ l cc nL D tys own R A Z J) {y : MethodName} {bytes : ByteArray} {maxL index b q0 k mc ms : Nat} {Rc : Room} {e0 : va_E} {F : List Nat → va_W} {e1 : List Nat → va_E} {tl : List Nat → va_W} {X : Nat → State → Prop}
    (hM : ∀ sz, Met l y [Cond.code y bytes maxL none] Rc (nPre D tys [.ref b] [(b, e0)] sz (X sz)) (nPost D (va_A [(b, e0)] sz) none F k) mc ms (va_A [(b, e0)] sz)) (hX : ∀ sz (U : State) g mk a, X sz U → X sz (U.calling g mk a)) (hZX : ∀ s meth args below Q, Z s meth args below Q → ∀ (H : Heap) (locs : List Loc), va_S A s.heap H locs → A b → ∀ U : State, U.heap = H → s.WarmedH U.vm → X H.size U)
    (hd : decode cc pc = .ok (.invokespecial index, 3)) (hk : cwOk y bytes maxL none 0) (hy : y.name = "<init>") (hR : cwRn R Rc maxL mc ms) (h1 : Cond.methodLink own index y ∈ lw_tbl) (h2 : Cond.instanceMethod y ∈ lw_tbl) (hq0 : ws[q0]? = some (b, e0)) (hF : ∀ qs, F qs = (b, e1 qs) :: tl qs) (hroom : (st.map fun v => v.category).sum ≤ 8) (hcc : ck + mc ≤ R.cells ∧ cs + ms ≤ R.slots)
    (kk : ∀ qs : List Nat, qs.length = k → J (ck + mc) (cs + ms) (ws.set q0 (b, e1 qs) ++ tl qs) (pc + 3) lv st) : J ck cs ws pc lv (.ref b :: st) := by
  obtain ⟨p, e, s, m, args, below, meth, c, Q, hx, hb, hml, ho, hK, hA, hZ, rfl⟩ := hJ
  intro H locs ls hP hD hS hl
  exact nRunI (va_runI (Ts := []) (As := []) (rest := st) ⟨hx, hb, hml, ho, fun _ h => absurd h List.not_mem_nil⟩ (hM H.size) ⟨jcBn hK hk hR h1, hy, hK.2.1 _ h2 rfl args⟩ ⟨nPre_blind (hX H.size), fun U hU hW => ⟨rfl, by rw [hU], by rw [hU]; exact one_P hP hq0, hK.warm hW, one_D hD hq0, hZX _ _ _ _ _ hZ H locs hS (hD.2 q0 _ hq0) U hU hW⟩⟩ rfl rfl hl.1 rfl (lv_room hroom) hd hcc) hP hD hS hA hq0 hF (fun qs hqs H locs hP hD hS => kk qs hqs H locs ls hP hD hS hl)
end NI
