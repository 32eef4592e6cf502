/-! The law from its entry: both objects made, then the loop. -/
def zS (b L : Nat) (xs : Nat → Int32) (a v : Nat) (fv : Value) (A : Nat → Prop) : nZ := fun s meth args below Q => zL b L xs a v fv A s meth args below Q ∧ ∀ q, s.heap.size ≤ q → A q
theorem zS.weak {l : Launch} {cc : ByteArray} {nL : Nat} {D : va_G} {tys : List (ClassId × FieldType)} {own : String} {R : Room} {A : Nat → Prop} {J : nT} {b L : Nat} {xs : Nat → Int32} {a v : Nat} {fv : Value} (hJ : nJ l cc nL D tys own R A (zS b L xs a v fv A) J) : nJ l cc nL D tys own R A (zL b L xs a v fv A) J := by
  obtain ⟨p, e, s, m, args, below, meth, c, Q, hx, hb, hml, ho, hK, hA, hZ, hj⟩ := hJ
  exact ⟨p, e, s, m, args, below, meth, c, Q, hx, hb, hml, ho, hK, hA, hZ.1, hj⟩
theorem xI.call {a v : Nat} {fv : Value} {A : Nat → Prop} (U : State) (g : JFrame) (mk : MethodId) (x : Array Value) (h : xI a v fv A U) : xI a v fv A (U.calling g mk x) := ⟨sX.call U g mk x h.1, vk_R.same rfl h.2.1, va_AO.moved (u := U) (U := U.calling g mk x) (Vm.Alike.refl U.vm) h.2.2.1, h.2.2.2⟩
theorem xI.pass {a v : Nat} {fv : Value} {A B : Nat → Prop} {s U : State} {H : Heap} {locs : List Loc} (h : xI a v fv A s) (hS : va_S A s.heap H locs) (hB : ∀ q, B q → A q) (hU : U.heap = H) (hW : s.WarmedH U.vm) : xI a v fv B U := ⟨sX.pass h.1 hS hB hU hW, vk_R.warm hW h.2.1, va_AO.moved hW.alike h.2.2.1, xAO_warm hW h.2.2.2⟩
section MP
variable {l : Launch} {cc : ByteArray} {nL : Nat} {D : va_G} {tys : List (ClassId × FieldType)} {own : String} {R : Room} {A : Nat → Prop} {Z : nZ} {J : nT} {ck cs : Nat} {ws : va_W} {pc : Nat} {lv : List (Nat × Value)} {st : List Value}
theorem nn_makeP (hJ : nJ l cc nL D tys own R A Z J) {C : String} {T : u_T} {N ci idx idx2 : Nat} {fs : List Value} {y : MethodName} {bytes : ByteArray} {maxL k mc ms : Nat} {Rc : Room} {F : Nat → List Nat → va_W} {e1 : Nat → List Nat → va_E} {tl : Nat → List Nat → va_W} {X : Nat → Nat → State → Prop}
    (hlay : ∀ w ∈ u_ws C T N, w ∈ lw_tbl ∧ goodWord w = true) (ty0 : Nat → FieldType) (hty : ∀ k, k < N → parseFieldDescriptor (T k).2.2.1 = some (ty0 k)) (hd1 : decode cc pc = .ok (.new idx, 3)) (hd2 : decode cc (pc + 3) = .ok (.dup, 1)) (hd3 : decode cc (pc + 3 + 1) = .ok (.invokespecial idx2, 3)) (hw1 : Cond.classLink own idx C ∈ lw_tbl) (hw2 : Cond.instantiable C N ∈ lw_tbl) (hw3 : Cond.initialized C ∈ lw_tbl) (hc : vwCl[ci]? = some (C, T, N)) (hfs : ∀ j, j < N → defaultValue (ty0 j) = vp_V fs j)
    (hM : ∀ b sz, Met l y [Cond.code y bytes maxL none] Rc (nPre D tys [.ref b] [(b, .inr (ci, fs))] sz (X b sz)) (nPost D (va_A [(b, .inr (ci, fs))] sz) none (F b) k) mc ms (va_A [(b, .inr (ci, fs))] sz)) (hX : ∀ b sz (U : State) g mk a, X b sz U → X b sz (U.calling g mk a)) (hZX : ∀ b s meth args below Q, Z s meth args below Q → ∀ (H : Heap) (locs : List Loc), va_S A s.heap H locs → A b → ∀ U : State, U.heap = H → s.WarmedH U.vm → X b H.size U)
    (hk : cwOk y bytes maxL none 0) (hy : y.name = "<init>") (hR : cwRn R Rc maxL mc ms) (h1 : Cond.methodLink own idx2 y ∈ lw_tbl) (h2 : Cond.instanceMethod y ∈ lw_tbl) (hF : ∀ b qs, F b qs = (b, e1 b qs) :: tl b qs) (hroom : ((st.map fun v => v.category).sum + 1 ≤ 8)) (hcc : ck + 1 + mc ≤ R.cells ∧ cs + N + ms ≤ R.slots)
    (kk : ∀ (q : Nat) (qs : List Nat), qs.length = k → J (ck + 1 + mc) (cs + N + ms) (ws ++ F q qs) (pc + 3 + 1 + 3) lv (.ref q :: st)) : J ck cs ws pc lv st := by
  refine nn_new hJ hlay ty0 hty hd1 hw1 hw2 hw3 hc hfs (by omega) (by omega) (fun q => ?_)
  refine nn_dup hJ hd2 rfl ?_
  refine nn_initP hJ (X := X q) (hM q) (hX q) (hZX q) hd3 hk hy hR h1 h2 at_last (hF q) (by show 1 + (st.map fun v => v.category).sum ≤ 8; omega) hcc (fun qs hqs => ?_)
  rw [set_last, ← hF]
  exact kk q qs hqs
end MP
set_option maxRecDepth 100000 in
set_option maxHeartbeats 4000000 in
theorem ll_start {l : Launch} {D : va_G} {cI cS cII : ClassId} {A : Nat → Prop} {J : nT} {b L : Nat} {xs : Nat → Int32} {a v : Nat} {fv : Value} (hfv : fv = .null ∨ ∃ t, fv = .ref t) (hJ0 : nJ l cL_law 4 D (tysU cI cS cII) RL room_1 A (zS b L xs a v fv A) J) (hL9 : L ≤ 2560) : J 0 0 [] 0 [(0, .ref b)] [] := by
  obtain ⟨rf1, cr1, m1, Oa1, over1, X1, O1, On1, k1, f1, t1, w1, now1, rnd1, R1, ed1, bb1, El1, Eb1, p1, Ek1, Ef1, Et1, Ew1, G1, h6, h7, hS, hL, hU, hR⟩ := first_alike
  refine nn_makeP hJ0 (X := fun b sz => xI a v fv (va_A [(b, .inr (6, [.null, .null, .null, .int 0, .null, .int 0, .null, .null, .null, .null, .null, .null, .int 0]))] sz)) lay_X6 tyX6 tyX6_ok dL_law_0 dL_law_3 dL_law_4 (tb1 (i := 16) rfl) (tb1 (i := 17) rfl) (tb1 (i := 1) rfl) rfl (fun j hj => by rcases (show j = 0 ∨ j = 1 ∨ j = 2 ∨ j = 3 ∨ j = 4 ∨ j = 5 ∨ j = 6 ∨ j = 7 ∨ j = 8 ∨ j = 9 ∨ j = 10 ∨ j = 11 ∨ j = 12 by omega) with rfl | rfl | rfl | rfl | rfl | rfl | rfl | rfl | rfl | rfl | rfl | rfl | rfl <;> rfl) (fun b sz => c_X6_init l D cI cS cII a v fv hfv b sz h6) (fun _ _ U g mk a h => xI.call U g mk a h) ?_ kl_X6_init rfl ⟨Nat.le_of_ble_eq_true rfl, Nat.le_of_ble_eq_true rfl, rfl, rfl⟩ (tb1 (i := 18) rfl) (tb1 (i := 19) rfl) (fun _ _ => rfl) (Nat.le_of_ble_eq_true rfl) ⟨Nat.le_of_ble_eq_true rfl, Nat.le_of_ble_eq_true rfl⟩ (fun x qs hq => ?_)
  · rintro b s meth args below Q ⟨hZ, hA⟩ H locs hSS hb U hU hW
    refine xI.pass hZ.2.2.2.2.2.2.2 hSS ?_ hU hW
    rintro q (⟨j, e, hj⟩ | hj)
    · have hj0 : j = 0 := by
        rcases j with _ | j
        · rfl
        · simp at hj
      subst hj0
      have h9 : b = q := by
        have h8 := Option.some.inj (show some _ = some _ from hj)
        exact congrArg Prod.fst h8
      rw [← h9]
      exact hb
    · exact hA q (Nat.le_trans hSS.1 hj)
  rw [List.nil_append]
  refine nn_astore_n hJ0 dL_law_7 rfl (by decide) (lv' := [(1, .ref x), (0, .ref b)]) rfl ?_
  refine nn_makeP hJ0 (X := fun _ _ _ => True) lay_X7 tyX7 tyX7_ok dL_law_8 dL_law_11 dL_law_12 (tb3 (i := 117) rfl) (tb3 (i := 118) rfl) (tb1 (i := 15) rfl) rfl (fun j hj => by rcases (show j = 0 ∨ j = 1 ∨ j = 2 ∨ j = 3 ∨ j = 4 ∨ j = 5 ∨ j = 6 ∨ j = 7 ∨ j = 8 ∨ j = 9 ∨ j = 10 ∨ j = 11 ∨ j = 12 ∨ j = 13 ∨ j = 14 ∨ j = 15 ∨ j = 16 ∨ j = 17 ∨ j = 18 ∨ j = 19 ∨ j = 20 ∨ j = 21 ∨ j = 22 ∨ j = 23 by omega) with rfl | rfl | rfl | rfl | rfl | rfl | rfl | rfl | rfl | rfl | rfl | rfl | rfl | rfl | rfl | rfl | rfl | rfl | rfl | rfl | rfl | rfl | rfl | rfl <;> rfl) (fun b sz => c_X7_init l D cI cS cII b sz h7) (fun _ _ _ _ _ _ _ => trivial) (fun _ _ _ _ _ _ _ _ _ _ _ _ _ _ => trivial) kl_X7_init rfl ⟨Nat.le_of_ble_eq_true rfl, Nat.le_of_ble_eq_true rfl, rfl, rfl⟩ (tb3 (i := 119) rfl) (tb3 (i := 120) rfl) (fun _ _ => rfl) (Nat.le_of_ble_eq_true rfl) ⟨Nat.le_of_ble_eq_true rfl, Nat.le_of_ble_eq_true rfl⟩ (fun y qt hqt => ?_)
  refine nn_astore_n hJ0 dL_law_15 rfl (by decide) (lv' := [(2, .ref y), (1, .ref x), (0, .ref b)]) rfl ?_
  refine nn_iconst hJ0 (v := nI 0) dL_law_16 (by decide) ?_
  refine nn_istore_n hJ0 dL_law_17 rfl (by decide) (lv' := [(3, .int (nI 0)), (2, .ref y), (1, .ref x), (0, .ref b)]) rfl ?_
  refine nn_widen hJ0 (k := 101) (n := 2538) (Nat.le_of_ble_eq_true rfl) (Nat.le_of_ble_eq_true rfl) ?_
  show J 101 2538 (WW cI cS cII (fun i => (x :: qs).getD i 0) (fun i => (y :: qt).getD i 0) (nI 0) (nI 0) rf1 (txF 77) X1 (nI 0) k1 f1 t1 w1 (nI 7) (nI m1) G1 (nI 7) (fun _ => 0) (fun _ => 0) (fun _ => 0) (fun _ => 0) 0 (fun _ => 0) (fun _ => 0) (nI 0) (fun _ => 0) (fun _ => 0) 0 O1 On1 (nI cr1) Oa1 p1 Ek1 Ef1 Et1 Ew1 El1 Eb1 (fun _ _ => 0) (fun _ _ => 0) (fun _ _ => 0) (fun _ _ => 0) (fun _ => 0) (fun _ => 0) (nI 0) (fun _ => 0) (nI 7) (nI 7) (nI 8) ak0 kd0 now1 (fun _ => 0) (nI 0) (fun _ => 0) (nI 0) rf1 (nI cr1) over1 rnd1 (nI 0) (fun _ => 0) (fun _ => 0) 0 (fun _ => 0) R1 ed1 bb1) 18 (lvL b ((fun i => (x :: qs).getD i 0) 0) ((fun i => (y :: qt).getD i 0) 0) 0) []
  exact ll_loop (zS.weak hJ0) hL9 (fun i => (x :: qs).getD i 0) (fun i => (y :: qt).getD i 0) (L + 1) 0 (by omega) (Nat.zero_le _) 7 m1 0 0 cr1 0 0 rf1 (txF 77) X1 k1 f1 t1 w1 G1 (fun _ => 0) (fun _ => 0) (fun _ => 0) (fun _ => 0) 0 (fun _ => 0) (fun _ => 0) (fun _ => 0) (fun _ => 0) 0 O1 On1 Oa1 p1 Ek1 Ef1 Et1 Ew1 El1 Eb1 (fun _ _ => 0) (fun _ _ => 0) (fun _ _ => 0) (fun _ _ => 0) (fun _ => 0) (fun _ => 0) (fun _ => 0) (nI 7) (nI 8) ak0 kd0 now1 (fun _ => 0) (fun _ => 0) over1 rnd1 (fun _ => 0) (fun _ => 0) 0 (fun _ => 0) R1 ed1 bb1 hS hL hU ⟨by decide, fun i hi => absurd hi (Nat.not_lt_zero _)⟩ hR ⟨by decide, fun i hi => absurd hi (Nat.not_lt_zero _)⟩ ⟨by decide, fun i hi => absurd hi (Nat.not_lt_zero _)⟩
