/-! What makes objects and arrays; the ends; contracts of what makes cells. -/
theorem va_at_lt {D : va_G} {ws : va_W} {H : Heap} (h : va_P D vwCl ws H) {k : Nat} {q : Nat × va_E} (hk : ws[k]? = some q) : q.1 < H.size := (h k q hk).lt
section NW
variable {l : Launch} {cc : ByteArray} {nL : Nat} {D : va_G} {tys : List (ClassId × FieldType)} {own : String} {R : Room} {A : Nat → Prop} {Z : nZ} {J : nT} {ck cs : Nat} {ws : va_W} {pc : Nat} {lv : List (Nat × Value)} {st : List Value} {cI cS cII : ClassId}
theorem nn_widen (hJ : nJ l cc nL D tys own R A Z J) {k n : Nat} (h1 : ck ≤ k) (h2 : cs ≤ n) (kk : J k n ws pc lv st) : J ck cs ws pc lv st := by
  obtain ⟨p, e, s, m, args, below, meth, c, Q, hx, hb, hml, ho, hK, hA, hZ, rfl⟩ := hJ
  intro H locs ls hP hD hS hl
  exact W.widen h1 h2 (kk H locs ls hP hD hS hl)
theorem nn_new (hJ : nJ l cc nL D tys own R A Z J) {C : String} {T : u_T} {N ci index : Nat} {fs : List Value} (hlay : ∀ w ∈ u_ws C T N, w ∈ lw_tbl ∧ goodWord w = true) (ty0 : Nat → FieldType) (hty : ∀ k, k < N → parseFieldDescriptor (T k).2.2.1 = some (ty0 k)) (hd : decode cc pc = .ok (.new index, 3)) (hw1 : Cond.classLink own index C ∈ lw_tbl) (hw2 : Cond.instantiable C N ∈ lw_tbl) (hw3 : Cond.initialized C ∈ lw_tbl) (hc : vwCl[ci]? = some (C, T, N)) (hfs : ∀ j, j < N → defaultValue (ty0 j) = vp_V fs j) (h1 : ck + 1 ≤ R.cells) (h2 : cs + N ≤ R.slots) (kk : ∀ q : Nat, J (ck + 1) (cs + N) (ws ++ [(q, .inr (ci, fs))]) (pc + 3) lv (.ref q :: st)) : J ck cs ws pc lv st := by
  obtain ⟨p, e, s, m, args, below, meth, c, Q, hx, hb, hml, ho, hK, hA, hZ, rfl⟩ := hJ
  intro H locs ls hP hD hS hl
  exact va_new (Ts := u_ws C T N) hx hb (fun w h => hK.2.1 w (hlay w h).1 (hlay w h).2 args) (fun _ h => h) ty0 hty ho (hK.2.1 _ hw1 rfl args) (hK.2.1 _ hw2 rfl args) (hK.2.1 _ hw3 rfl args) hK.1 hP hD hS hA hc hfs h1 h2 hd (fun q H1 hP hD hS => kk q H1 locs ls hP hD hS hl)
theorem nn_newa (hJ : nJ l cc nL D (tysU cI cS cII) own R A Z J) {n : Int32} {N : Nat} (hd : decode cc pc = .ok (.newarray .int, 2)) (hw : Cond.arrayClass .int ∈ lw_tbl) (hn : n = nI N) (hN : N ≤ 1000) (h1 : ck + 1 ≤ R.cells) (h2 : cs + N ≤ R.slots) (kk : ∀ q : Nat, J (ck + 1) (cs + N) (ws ++ [(q, .inl (cI, N, .inl (fun _ => 0)))]) (pc + 2) lv (.ref q :: st)) : J ck cs ws pc lv (.int n :: st) := by
  obtain ⟨p, e, s, m, args, below, meth, c, Q, hx, hb, hml, ho, hK, hA, hZ, rfl⟩ := hJ
  intro H locs ls hP hD hS hl
  subst hn
  refine va_newa (atype := .int) (ty := .int) (a0 := (N, .inl (fun _ => 0))) hx hb (hK.2.1 _ hw rfl args) rfl hK.1 hP hD hS hA (fun cA => rfl) (nI_pos (by omega)) (nI_clamp (by omega)) (by show N * 4 ≤ 536870912; omega) h1 h2 hd (fun q cA H1 hK1 hP hD hS => ?_)
  have e1 := va_nm_int (hK.1.2 0 (cI, .int) rfl).2
  have e2 := va_nm_int (hK1.2 3 (cA, .int) rfl).2
  have e3 : cA = cI := Option.some.inj (e2.symm.trans e1)
  subst e3
  exact kk q H1 locs ls hP hD hS hl
theorem nn_newq (hJ : nJ l cc nL D (tysU cI cS cII) own R A Z J) {n : Int32} {N index : Nat} (hd : decode cc pc = .ok (.anewarray index, 3)) (hw : Cond.classLink own index "UniverseLevels$State" ∈ lw_tbl) (hZa : ∀ s meth args below Q, Z s meth args below Q → va_AO "UniverseLevels$State" s) (hn : n = nI N) (hN : N ≤ 1000) (h1 : ck + 1 ≤ R.cells) (h2 : cs + N ≤ R.slots) (kk : ∀ q : Nat, J (ck + 1) (cs + N) (ws ++ [(q, .inl (cS, N, .inr (.inr (.inr (.inr (fun _ => none))))))]) (pc + 3) lv (.ref q :: st)) : J ck cs ws pc lv (.int n :: st) := by
  obtain ⟨p, e, s, m, args, below, meth, c, Q, hx, hb, hml, ho, hK, hA, hZ, rfl⟩ := hJ
  intro H locs ls hP hD hS hl
  subst hn
  refine va_newq (C := "UniverseLevels$State") hx hb ho (hK.2.1 _ hw rfl args) (hZa _ _ _ _ _ hZ) hK.1 hP hD hS hA (nI_pos (by omega)) (nI_clamp (by omega)) (by omega) h1 h2 hd (fun q cA H1 hK1 hP hD hS => ?_)
  have e1 := va_nmO (hK.1.2 1 (cS, .object "UniverseLevels$State") rfl).2 rfl
  have e2 := va_nmO (hK1.2 3 (cA, .object "UniverseLevels$State") rfl).2 rfl
  have e3 : cA = cS := Option.some.inj (e2.symm.trans e1)
  subst e3
  exact kk q H1 locs ls hP hD hS hl
theorem nn_putr (hJ : nJ l cc nL D tys own R A Z J) (hZn : ∀ s meth args below Q, Z s meth args below Q → meth.name = "<init>") {C : String} {T : u_T} {N ci index a v : Nat} {fs : List Value} {ty : FieldType} {wn : va_W} (hlay : ∀ w ∈ u_ws C T N, w ∈ lw_tbl ∧ goodWord w = true) (ty0 : Nat → FieldType) (hty : ∀ k, k < N → parseFieldDescriptor (T k).2.2.1 = some (ty0 k)) (hnm : ∀ a, a < N → ∀ b, b < N → a ≠ b → (T a).2.1 ≠ (T b).2.1) (hd : decode cc pc = .ok (.putfield index, 3)) (q0 k : Nat) (he : ws[q0]? = some (a, .inr (ci, fs))) (hc : vwCl[ci]? = some (C, T, N)) (hk : k < N) (hw : Cond.fieldLink own index (T k).1 (T k).2.1 (T k).2.2.1 ∈ lw_tbl) (hfin : (T k).2.2.2 = true) (hdecl : (T k).1 = own) (hpd : parseFieldDescriptor (T k).2.2.1 = some ty) (hnar : narrow ty (.ref v) = .ref v) (hfit : fits ty (.ref v) = true) (hlen : k < fs.length) (hwn : ws.set q0 (a, .inr (ci, fs.set k (.ref v))) = wn) (kk : J ck cs wn (pc + 3) lv st) : J ck cs ws pc lv (.ref v :: .ref a :: st) := by
  obtain ⟨p, e, s, m, args, below, meth, c, Q, hx, hb, hml, ho, hK, hA, hZ, rfl⟩ := hJ
  intro H locs ls hP hD hS hl
  subst hwn
  exact va_putF (Ts := u_ws C T N) (ty := ty) hx hb (fun w h => hK.2.1 w (hlay w h).1 (hlay w h).2 args) (fun _ h => h) ty0 hty hnm ho hK.1 hP hD hS q0 he hc k hk (hK.2.1 _ hw rfl args) (fun _ h => h) hfin (hZn _ _ _ _ _ hZ) hdecl hpd hnar hfit hlen hd (fun H locs hP hD hS => kk H locs ls hP hD hS hl)
theorem nn_objInit (hJ : nJ l cc nL D tys own R A Z J) {index a : Nat} (hd : decode cc pc = .ok (.invokespecial index, 3)) (hw : Cond.methodLink own index objectInit ∈ lw_tbl) (hw2 : Cond.instanceMethod objectInit ∈ lw_tbl) (hw3 : Cond.code objectInit ⟨#[0xb1]⟩ 1 none ∈ lw_tbl) (hf : 1 ≤ R.frames) (hr : (st.map fun v => v.category).sum + 12 ≤ R.locals) (kk : J ck cs ws (pc + 3) lv st) : J ck cs ws pc lv (.ref a :: st) := by
  obtain ⟨p, e, s, m, args, below, meth, c, Q, hx, hb, hml, ho, hK, hA, hZ, rfl⟩ := hJ
  intro H locs ls hP hD hS hl
  exact W.objInit hx hb ho (hK.2.1 _ hw rfl args) (hK.2.1 _ hw2 rfl args) (hK.2.1 _ hw3 rfl args) rfl (by rw [hml]; exact hl.1) rfl hd hf (by show 2 * 0 + _ + 12 ≤ _; omega) (W.eq (g2 := F0 m (pc + 3) ls st) rfl (kk H locs ls hP hD hS hl))
end NW
/-- a contract's end: what it answers, the world with the new cells qs -/
def nPost (D : va_G) (A : Nat → Prop) (r : Option Int32) (F : List Nat → va_W) (k : Nat) : Array Value → State → Outcome → State → Prop := fun _ st oc t => oc = .returned (r.map Value.int) ∧ ∃ qs : List Nat, qs.length = k ∧ va_P D vwCl (F qs) t.heap ∧ va_D A (F qs) ∧ st.heap.size ≤ t.heap.size ∧ ∀ q : Nat, q < st.heap.size → ¬ A q → t.heap[q]? = st.heap[q]?
def nPre (D : va_G) (tys : List (ClassId × FieldType)) (av : List Value) (ws : va_W) (sz : Nat) (X : State → Prop) : Array Value → State → Prop := fun v U => v = av.toArray ∧ U.heap.size = sz ∧ va_P D vwCl ws U.heap ∧ jK D tys U ∧ va_D (fun _ => True) ws ∧ X U
def zM (nm : String) (rt : Option FieldType) (X : State → Prop) (post : Array Value → State → Outcome → State → Prop) (mc ms : Nat) (free : Nat → Prop) : nZ := fun s meth args below Q => meth.name = nm ∧ meth.sig.returnType = rt ∧ meth.locks = false ∧ X s ∧ Q = MQ below post args s mc ms free
theorem nc_of {l : Launch} {y : MethodName} {cc : ByteArray} {nL : Nat} {rt : Option FieldType} {R : Room} {D : va_G} {tys : List (ClassId × FieldType)} {av : List Value} {ws : va_W} {sz : Nat} {X : State → Prop} {r : Option Int32} {F : List Nat → va_W} {k mc ms : Nat} {own : String}
    (hy : plainName y.cls = true) (ho : y.cls = own) (hav : (lg_sl av).length ≤ nL) (body : ∀ J : nT, nJ l cc nL D tys own R (va_A ws sz) (zM y.name rt X (nPost D (va_A ws sz) r F k) mc ms (va_A ws sz)) J → J 0 0 ws 0 (lv_args 0 av) []) : Met l y [Cond.code y cc nL rt] R (nPre D tys av ws sz X) (nPost D (va_A ws sz) r F k) mc ms (va_A ws sz) := by
  refine Met.ofW (cc := cc) (maxL := nL) (ret := rt) hy rfl ?_
  intro p e s m args below meth c s₁ B hml hv
  obtain ⟨rfl, hsz, hP, hK, hD0, hX⟩ := hv
  have hl := lv_entry av (n := nL) hav
  rw [lg_entry_eq]
  have hown : s.vm.findClass own = some m.cls := by rw [← ho]; exact findClass_of_methodNamed B.named
  have hnm : meth.name = y.name := (name_of_methodNamed B.named B.method).1
  subst hsz
  exact body _ ⟨p, e, s, m, av.toArray, below, meth, c, _, B.exec, B.bytes, hml, hown, hK, fun q h => Or.inr h, ⟨hnm, B.returns, B.notSynchronized, hX, rfl⟩, rfl⟩ s.heap [] _ hP hD0.self va_S.rf hl
section NE
variable {l : Launch} {cc : ByteArray} {nL : Nat} {D : va_G} {tys : List (ClassId × FieldType)} {own : String} {R : Room} {A : Nat → Prop} {J : nT} {ck cs : Nat} {ws : va_W} {pc : Nat} {lv : List (Nat × Value)} {st : List Value} {nm : String} {X : State → Prop} {F : List Nat → va_W} {k mc ms : Nat}
theorem nn_vret (hJ : nJ l cc nL D tys own R A (zM nm none X (nPost D A none F k) mc ms A) J) (hd : decode cc pc = .ok (.return_, 1)) (qs : List Nat) (hq : qs.length = k) (hF : F qs = ws) : J mc ms ws pc lv [] := by
  obtain ⟨p, e, s, m, args, below, meth, c, Q, hx, hb, hml, ho, hK, hA, ⟨-, hr, hlk, -, rfl⟩, rfl⟩ := hJ
  intro H locs ls hP hD hS hl
  exact W.vret hx hb hr (fun t ht hW => ⟨rfl, qs, hq, by rw [ht, hF]; exact hP, by rw [hF]; exact hD, by rw [ht]; exact hS.1, fun q h1 h2 => by rw [ht]; exact hS.2.1 q h1 h2⟩) hS.2.2 hd hlk
theorem nn_rret {v9 : Int32} {ty : FieldType} (hJ : nJ l cc nL D tys own R A (zM nm (some ty) X (nPost D A (some v9) F k) mc ms A) J) (hn : narrow ty (.int v9) = .int v9) (hd : decode cc pc = .ok (.ireturn, 1)) (qs : List Nat) (hq : qs.length = k) (hF : F qs = ws) : J mc ms ws pc lv [.int v9] := by
  obtain ⟨p, e, s, m, args, below, meth, c, Q, hx, hb, hml, ho, hK, hA, ⟨-, hr, hlk, -, rfl⟩, rfl⟩ := hJ
  intro H locs ls hP hD hS hl
  exact W.zret hx hb hr hn (fun t ht hW => ⟨rfl, qs, hq, by rw [ht, hF]; exact hP, by rw [hF]; exact hD, by rw [ht]; exact hS.1, fun q h1 h2 => by rw [ht]; exact hS.2.1 q h1 h2⟩) hS.2.2 hd hlk
end NE
/-- the world behind a call that made cells: its own cell at its place, the new ones behind -/
theorem put_new {A : Nat → Prop} {D : va_G} {ws tl : va_W} {q0 b : Nat} {e0 e1 : va_E} {H H1 : Heap} (hP : va_P D vwCl ws H) (hD : va_D A ws) (hq0 : ws[q0]? = some (b, e0)) (hP1 : va_P D vwCl ((b, e1) :: tl) H1) (hD1 : va_D (va_A [(b, e0)] H.size) ((b, e1) :: tl)) (hk : ∀ q : Nat, q < H.size → ¬ va_A [(b, e0)] H.size q → H1[q]? = H[q]?) (hA : ∀ q : Nat, H.size ≤ q → A q) : va_P D vwCl (ws.set q0 (b, e1) ++ tl) H1 ∧ va_D A (ws.set q0 (b, e1) ++ tl) := by
  have hq0l : q0 < ws.length := (List.getElem?_eq_some_iff.mp hq0).1
  -- what stands at a place
  have at_ : ∀ (k : Nat) (q : Nat × va_E), (ws.set q0 (b, e1) ++ tl)[k]? = some q → (k = q0 ∧ q = (b, e1)) ∨ (k ≠ q0 ∧ k < ws.length ∧ ws[k]? = some q) ∨ (ws.length ≤ k ∧ ((b, e1) :: tl)[k - ws.length + 1]? = some q) := by
    intro k q h
    by_cases hkl : k < ws.length
    · rw [List.getElem?_append_left (by rw [List.length_set]; exact hkl)] at h
      by_cases e : k = q0
      · subst e
        rw [List.getElem?_set_self hkl] at h
        exact Or.inl ⟨rfl, (Option.some.inj h).symm⟩
      · rw [List.getElem?_set_ne (Ne.symm e)] at h
        exact Or.inr (Or.inl ⟨e, hkl, h⟩)
    · rw [List.getElem?_append_right (by rw [List.length_set]; omega), List.length_set] at h
      exact Or.inr (Or.inr ⟨by omega, by rw [List.getElem?_cons_succ]; exact h⟩)
  have notA : ∀ (k : Nat) (q : Nat × va_E), k ≠ q0 → ws[k]? = some q → ¬ va_A [(b, e0)] H.size q.1 := by
    rintro k q hk hq (⟨j, e, hj⟩ | hj)
    · have hj0 : j = 0 := by
        rcases j with _ | j
        · rfl
        · simp at hj
      subst hj0
      have : (b, e0) = (q.1, e) := by simpa using hj
      have hb : q.1 = b := by cases this; rfl
      exact hk (hD.1 k q0 q (b, e0) hq hq0 hb)
    · have := va_at_lt hP hq
      omega
  have newA : ∀ (j : Nat) (q : Nat × va_E), ((b, e1) :: tl)[j + 1]? = some q → H.size ≤ q.1 := by
    intro j q hj
    rcases hD1.2 (j + 1) q hj with ⟨i, e, hi⟩ | h
    · have hi0 : i = 0 := by
        rcases i with _ | i
        · rfl
        · simp at hi
      subst hi0
      have : (b, e0) = (q.1, e) := by simpa using hi
      have hb : q.1 = b := by cases this; rfl
      have := hD1.1 (j + 1) 0 q (b, e1) hj rfl hb
      omega
    · exact h
  have hbH : b < H.size := va_at_lt hP hq0
  refine ⟨fun k q h => ?_, fun i j x y hi hj hxy => ?_, fun k q h => ?_⟩
  · rcases at_ k q h with ⟨-, rfl⟩ | ⟨h1, h2, h3⟩ | ⟨h1, h2⟩
    · exact hP1 0 _ rfl
    · exact (hP k q h3).kept (hk q.1 (va_at_lt hP h3) (notA k q h1 h3))
    · exact hP1 _ q h2
  · rcases at_ i x hi with ⟨h1, rfl⟩ | ⟨h1, h2, h3⟩ | ⟨h1, h2⟩ <;> rcases at_ j y hj with ⟨g1, rfl⟩ | ⟨g1, g2, g3⟩ | ⟨g1, g2⟩
    · omega
    · exact (g1 (hD.1 q0 j (b, e0) y hq0 g3 hxy).symm).elim
    · have := newA _ _ g2
      have h9 : b = y.1 := hxy
      omega
    · exact (h1 (hD.1 i q0 x (b, e0) h3 hq0 hxy)).elim
    · exact hD.1 i j x y h3 g3 hxy
    · have := newA _ _ g2
      have := va_at_lt hP h3
      omega
    · have := newA _ _ h2
      have h9 : x.1 = b := hxy
      omega
    · have := newA _ _ h2
      have := va_at_lt hP g3
      omega
    · have := hD1.1 _ _ x y h2 g2 hxy
      omega
  · rcases at_ k q h with ⟨-, rfl⟩ | ⟨h1, h2, h3⟩ | ⟨h1, h2⟩
    · exact hD.2 q0 (b, e0) hq0
    · exact hD.2 k q h3
    · exact hA _ (newA _ _ h2)
theorem nPre_blind {D : va_G} {tys : List (ClassId × FieldType)} {av : List Value} {ws : va_W} {sz : Nat} {X : State → Prop} (hX : ∀ (U : State) g mk a, X U → X (U.calling g mk a)) : FrameBlind (nPre D tys av ws sz X) := fun a U g mk h => ⟨h.1, h.2.1, h.2.2.1, jK.warm (U := U.calling g mk _) (State.WarmedH.refl U) h.2.2.2.1, h.2.2.2.2.1, hX U g mk a h.2.2.2.2.2⟩
