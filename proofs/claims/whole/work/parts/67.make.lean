/-! Making an object of a nested class; rows of objects; the world in another order. -/
theorem len1 {qs : List Nat} (h : qs.length = 1) : ∃ a, qs = [a] := List.length_eq_one_iff.mp h
theorem len2 {qs : List Nat} (h : qs.length = 2) : ∃ a b, qs = [a, b] := by
  match qs, h with
  | [a, b], _ => exact ⟨a, b, rfl⟩
theorem len3 {qs : List Nat} (h : qs.length = 3) : ∃ a b c, qs = [a, b, c] := by
  match qs, h with
  | [a, b, c], _ => exact ⟨a, b, c, rfl⟩
theorem len4 {qs : List Nat} (h : qs.length = 4) : ∃ a b c d, qs = [a, b, c, d] := by
  match qs, h with
  | [a, b, c, d], _ => exact ⟨a, b, c, d, rfl⟩
theorem at_last {ws : va_W} {x : Nat × va_E} : (ws ++ [x])[ws.length]? = some x := by
  rw [List.getElem?_append_right (Nat.le_refl _), Nat.sub_self]; rfl
theorem set_last {ws tl : va_W} {x y : Nat × va_E} : (ws ++ [x]).set ws.length y ++ tl = ws ++ (y :: tl) := by
  rw [List.set_append_right _ _ (Nat.le_refl _), Nat.sub_self, List.append_assoc]; rfl
section MK
variable {l : Launch} {cc : ByteArray} {nL : Nat} {D : va_G} {tys : List (ClassId × FieldType)} {own : String} {R : Room} {A : Nat → Prop} {Z : nZ} {J : nT} {ck cs : Nat} {ws : va_W} {pc : Nat} {lv : List (Nat × Value)} {st : List Value}
theorem nn_sub (hJ : nJ l cc nL D tys own R A Z J) {ws' : va_W} (is : List Nat) (hs : is.filterMap (fun i => ws[i]?) = ws') (hs2 : is.map (fun i => ws[i]?) = ws'.map some) (hnd : va_nd is = true) (kk : J ck cs ws' pc lv st) : J ck cs ws pc lv st := by
  obtain ⟨p, e, s, m, args, below, meth, c, Q, hx, hb, hml, ho, hK, hA, hZ, rfl⟩ := hJ
  intro H locs ls hP hD hS hl
  exact kk H locs ls (hP.sub is hs) (hD.sub is hnd hs2) hS hl
theorem nn_arr (hJ : nJ l cc nL D tys own R A Z J) {cA : ClassId} {n a : Nat} {f g : Nat → Option Nat} {wn : va_W} (q0 : Nat) (ha : ws[q0]? = some (a, .inl (cA, n, .inr (.inr (.inr (.inr f)))))) (hfg : ∀ j, j < n → f j = g j) (hwn : ws.set q0 (a, .inl (cA, n, .inr (.inr (.inr (.inr g))))) = wn) (kk : J ck cs wn pc lv st) : J ck cs ws pc lv st := by
  obtain ⟨p, e, s, m, args, below, meth, c, Q, hx, hb, hml, ho, hK, hA, hZ, rfl⟩ := hJ
  intro H locs ls hP hD hS hl
  subst hwn
  refine kk H locs ls (hP.set hD ha ?_ (fun q _ => rfl)) (hD.set ha) hS hl
  have h1 : H[a]? = some (vp_cell cA (n, .inr (.inr (.inr (.inr f))))) := hP q0 _ ha
  show H[a]? = some (vp_cell cA (n, .inr (.inr (.inr (.inr g)))))
  rw [h1, vp_cell_q, vp_cell_q]
  congr 1
  unfold arrV
  congr 1
  apply Array.ext_getElem?
  intro i
  by_cases hi : i < n
  · simp [hi, hfg i hi]
  · simp [hi]
theorem nn_make (hJ : nJ l cc nL D tys own R A Z J) {C : String} {T : u_T} {N ci idx idx2 : Nat} {fs : List Value} {y : MethodName} {bytes : ByteArray} {k mc ms : Nat} {host : String} {Rc : Room} {F : Nat → List Nat → va_W} {e1 : Nat → List Nat → va_E} {tl : Nat → List Nat → va_W} {X : State → Prop}
    (hlay : ∀ w ∈ u_ws C T N, w ∈ lw_tbl ∧ goodWord w = true) (ty0 : Nat → FieldType) (hty : ∀ k, k < N → parseFieldDescriptor (T k).2.2.1 = some (ty0 k)) (hd1 : decode cc pc = .ok (.new idx, 3)) (hd2 : decode cc (pc + 3) = .ok (.dup, 1)) (hd3 : decode cc (pc + 3 + 1) = .ok (.invokespecial idx2, 3)) (hw1 : Cond.classLink own idx C ∈ lw_tbl) (hw2 : Cond.instantiable C N ∈ lw_tbl) (hw3 : Cond.initialized C ∈ lw_tbl) (hc : vwCl[ci]? = some (C, T, N)) (hfs : ∀ j, j < N → defaultValue (ty0 j) = vp_V fs j)
    (hM : ∀ b sz, Met l y [Cond.code y bytes 1 none] Rc (nPre D tys [.ref b] [(b, .inr (ci, fs))] sz X) (nPost D (va_A [(b, .inr (ci, fs))] sz) none (F b) k) mc ms (va_A [(b, .inr (ci, fs))] sz)) (hX : ∀ (U : State) g mk a, X U → X (U.calling g mk a)) (hZX : ∀ s meth args below Q, Z s meth args below Q → ∀ U : State, s.WarmedH U.vm → X U)
    (hk : cwOk y bytes 1 none 0) (hy : y.name = "<init>") (hR : cwRn R Rc 1 mc ms) (h1 : (own, idx2, y, host) ∈ nestM) (h2 : Cond.instanceMethod y ∈ lw_tbl) (hF : ∀ b qs, F b qs = (b, e1 b qs) :: tl b qs) (hroom : ((st.map fun v => v.category).sum + 1 ≤ 8)) (hcc : ck + 1 + mc ≤ R.cells ∧ cs + N + ms ≤ R.slots)
    (kk : ∀ (q : Nat) (qs : List Nat), qs.length = k → J (ck + 1 + mc) (cs + N + ms) (ws ++ F q qs) (pc + 3 + 1 + 3) lv (.ref q :: st)) : J ck cs ws pc lv st := by
  refine nn_new hJ hlay ty0 hty hd1 hw1 hw2 hw3 hc hfs (by omega) (by omega) (fun q => ?_)
  refine nn_dup hJ hd2 rfl ?_
  refine nn_initN hJ (X := X) (hM q) hX hZX hd3 hk hy hR h1 h2 at_last (hF q) (by show 1 + (st.map fun v => v.category).sum ≤ 8; omega) hcc (fun qs hqs => ?_)
  rw [set_last, ← hF]
  exact kk q qs hqs
end MK
