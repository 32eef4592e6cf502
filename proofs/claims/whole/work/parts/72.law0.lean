/-! The law: its judgement, its script, its words; the state at its head. -/
/-! THE CLAIM OUT OF ONE WALK OF THE LAW'S BODY. Your part is whole_start (and what it stands on); all else here is the same for every law, but numbers. -/
def R_law : String := "UniverseLevelsLaw"
def lw_P (b : Addr) (xs : List Int32) (args : Array Value) (s : State) : Prop := args = #[.ref b] ∧ s.IntsAt b xs ∧ xs.length ≤ 2560 ∧ (Jvm.Cond.and given_1 narrow_1).before args s = true
def lw_Q (_ : Array Value) (s : State) (o : Outcome) (t : State) : Prop := o = .returned (some (.int 1)) ∧ Framed s o t [] 600000 7302250
def lw_Z (below : List Frame) (a : Array Value) (s : State) : State → Prop := fun t => ∃ o, t.status = .running ∧ Ended t below o ∧ lw_Q a s o t
/-- the law's own end, with 1 on the stack, nothing written that was there before, its room as the claim has it -/
theorem lw_ret {p : Program} {l : Launch} {e : Env} {s : State} {m : MethodId} {below : List Frame} {meth : Method} {c : Code} {b : Nat} (hx : p.tables.exec = Jvm.exec) (hb : c.code = code) (hr : meth.sig.returnType = ret) (hlocks : meth.locks = false) {pc : Nat} {H : Heap} {ls : Array Slot} (hdg : decode code pc = .ok (.ireturn, 1)) : W p l e room_1 s m #[Value.ref b] below meth c H [] 600000 7302250 (lw_Z below #[Value.ref b] s) (F0 m pc ls [.int 1]) := by
  intro T hT X
  obtain ⟨fs, hret, hrun, hended, hW, hframe⟩ := X.leave (v := some (.int 1)) (hlocks := hlocks) (fun h => by rw [hr] at h; cases h)
  have hmeth' : T.vm.method? m = some meth := X.method'
  refine ⟨T.setFrames fs, ?_, .returned (some (.int 1)), hrun, hended, rfl, ⟨_, rfl⟩, hW, hframe⟩
  jvm_step X.here [X.here.top, hx, hb, hdg, hmeth', hr, ret, narrow_b1]
  (try refine ⟨rfl, ?_⟩); (try refine ⟨rfl, ?_⟩)
  first | (intro acts; rw [hret _ acts rfl rfl rfl]) | rw [hret _ _ rfl rfl rfl]
  exact Steps.refl _
/-- what holds at the law's entry: the machine, the code, the tables' words (any of lw_tbl by 'hts w (by decide +kernel)'), the script of L ints xs at the cell b, what the Statement gives of the start (any of its parts by flat_of_before) -/
def lw_At (p : Program) (s : State) (m : MethodId) (meth : Method) (c : Code) (b L : Nat) (xs : Nat → Int32) : Prop :=
  p.tables.exec = Jvm.exec ∧ c.code = code ∧ meth.sig.returnType = ret ∧ c.maxLocals = 4 ∧ s.vm.findClass R_law = some m.cls ∧ (∀ w ∈ lw_tbl, w.before #[Value.ref b] s = true) ∧ va_X b L xs s s.heap ∧ b < s.heap.size ∧ meth.locks = false ∧ (Jvm.Cond.and given_1 narrow_1).before #[Value.ref b] s = true
def zL (b L : Nat) (xs : Nat → Int32) (a v : Nat) (fv : Value) (A : Nat → Prop) : nZ := fun s meth args below Q => va_X b L xs s s.heap ∧ b < s.heap.size ∧ (∀ q, A q → s.heap.size ≤ q) ∧ meth.sig.returnType = ret ∧ meth.locks = false ∧ args = #[Value.ref b] ∧ Q = lw_Z below #[Value.ref b] s ∧ xI a v fv A s
section LR
variable {l : Launch} {cc : ByteArray} {nL : Nat} {D : va_G} {tys : List (ClassId × FieldType)} {own : String} {R : Room} {A : Nat → Prop} {J : nT} {ck cs : Nat} {ws : va_W} {pc : Nat} {lv : List (Nat × Value)} {st : List Value} {b L : Nat} {xs : Nat → Int32} {a v : Nat} {fv : Value}
theorem nn_sld (hJ : nJ l cc nL D tys own R A (zL b L xs a v fv A) J) {i : Nat} (hi : i < L) (hL : L ≤ 2560) (hd : decode cc pc = .ok (.iaload, 1)) (kk : J ck cs ws (pc + 1) lv (.int (xs i) :: st)) : J ck cs ws pc lv (.int (nI i) :: .ref b :: st) := by
  obtain ⟨p, e, s, m, args, below, meth, c, Q, hx, hb, hml, ho, hK, hA, hZ, rfl⟩ := hJ
  intro H locs ls hP hD hS hl
  refine va_sld hx hb hZ.1 hZ.2.1 (fun q => Nat.not_lt.mpr (hZ.2.2.1 b q) hZ.2.1) hS (vp_in_nI hi (by omega)) hd ?_
  rw [nI_clamp (by omega)]
  exact kk H locs ls hP hD hS hl
theorem nn_slen (hJ : nJ l cc nL D tys own R A (zL b L xs a v fv A) J) (hd : decode cc pc = .ok (.arraylength, 1)) (kk : J ck cs ws (pc + 1) lv (.int (nI L) :: st)) : J ck cs ws pc lv (.ref b :: st) := by
  obtain ⟨p, e, s, m, args, below, meth, c, Q, hx, hb, hml, ho, hK, hA, hZ, rfl⟩ := hJ
  intro H locs ls hP hD hS hl
  exact va_slen hx hb hZ.1 hZ.2.1 (fun q => Nat.not_lt.mpr (hZ.2.2.1 b q) hZ.2.1) hS hd (kk H locs ls hP hD hS hl)
theorem nn_lend (hJ : nJ l cL_law nL D tys own room_1 A (zL b L xs a v fv A) J) (h1 : ck ≤ 600000) (h2 : cs ≤ 7302250) (hd : decode cL_law pc = .ok (.ireturn, 1)) : J ck cs ws pc lv [.int 1] := by
  obtain ⟨p, e, s, m, args, below, meth, c, Q, hx, hb, hml, ho, hK, hA, ⟨hX, hbl, hA2, hr, hlk, rfl, rfl, hI⟩, rfl⟩ := hJ
  intro H locs ls hP hD hS hl
  refine va_forget (fun q hq => hA2 _ (hS.2.2 q hq)) ?_
  refine W.widen (k := 600000) (n := 7302250) h1 h2 ?_
  exact lw_ret hx hb hr hlk hd
abbrev lvL (b x y i : Nat) : List (Nat × Value) := [(3, .int (nI i)), (2, .ref y), (1, .ref x), (0, .ref b)]
theorem ll_arg (hJ : nJ l cL_law 4 D tys own R A (zL b L xs a v fv A) J) (k : Nat) {i x y : Nat} {n : Int} (hk : i + k < L) (hL : L ≤ 2560) (hn : Int32.ofInt n = nI k) (d0 : decode cL_law pc = .ok (.aload_n 0, 1)) (d1 : decode cL_law (pc + 1) = .ok (.iload_n 3, 1)) (d2 : decode cL_law (pc + 1 + 1) = .ok (.iconst n, 1)) (d3 : decode cL_law (pc + 1 + 1 + 1) = .ok (.iadd, 1)) (d4 : decode cL_law (pc + 1 + 1 + 1 + 1) = .ok (.iaload, 1)) (kk : J ck cs ws (pc + 1 + 1 + 1 + 1 + 1) (lvL b x y i) (.int (xs (i + k)) :: st)) : J ck cs ws pc (lvL b x y i) st := by
  refine nn_aload_n hJ d0 3 rfl rfl ?_
  refine nn_iload_n hJ d1 0 rfl rfl ?_
  refine nn_iconst hJ (v := nI k) d2 hn ?_
  refine nn_iadd hJ d3 ?_
  rw [nIadd]
  exact nn_sld hJ hk hL d4 kk
theorem ll_head (hJ : nJ l cL_law 4 D tys own room_1 A (zL b L xs a v fv A) J) {i x y : Nat} (hL : L ≤ 2560) (hi : i ≤ L) (h1 : ck ≤ 600000) (h2 : cs ≤ 7302250) (kk : i + 5 ≤ L → J ck cs ws 32 (lvL b x y i) [.int (xs i &&& 31)]) : J ck cs ws 18 (lvL b x y i) [] := by
  refine nn_iload_n hJ dL_law_18 0 rfl rfl ?_
  refine nn_aload_n hJ dL_law_19 3 rfl rfl ?_
  refine nn_slen hJ dL_law_20 ?_
  refine nn_iconst hJ (v := 5) dL_law_21 (by decide) ?_
  refine nn_isub hJ dL_law_22 ?_
  have t5 : (5 : Int32).toInt = 5 := by decide
  have ts : (nI L - 5 : Int32).toInt = (L : Int) - 5 := by rw [tsub (by rw [tnI (by omega), t5]; omega) (by rw [tnI (by omega), t5]; omega), tnI (by omega), t5]
  refine nn_icmp_gt hJ 846 dL_law_23 (by decide) (fun c => ?_) (fun c => ?_)
  · refine nn_iconst hJ (v := 1) dL_law_846 (by decide) ?_
    exact nn_lend hJ h1 h2 dL_law_847
  · have h5 : i + 5 ≤ L := by
      rw [tlt, ts, tnI (by omega)] at c
      omega
    refine nn_aload_n hJ dL_law_26 3 rfl rfl ?_
    refine nn_iload_n hJ dL_law_27 0 rfl rfl ?_
    refine nn_sld hJ (by omega) hL dL_law_28 ?_
    refine nn_bipush hJ (v := 31) dL_law_29 (by decide) ?_
    refine nn_iand hJ dL_law_31 ?_
    exact kk h5
end LR
theorem and31 (x : Int32) : ∃ k, k < 32 ∧ x &&& 31 = nI k := by
  refine ⟨x.toUInt32.toNat % 32, Nat.mod_lt _ (by decide), ?_⟩
  apply Int32.toBitVec_inj.mp
  apply BitVec.eq_of_toNat_eq
  rw [Int32.toBitVec_and]
  show (x.toBitVec &&& 31#32).toNat = (BitVec.ofNat 32 (x.toUInt32.toNat % 32)).toNat
  rw [BitVec.toNat_and, BitVec.toNat_ofNat, BitVec.toNat_ofNat]
  show x.toBitVec.toNat &&& (31 % 2 ^ 32) = (x.toBitVec.toNat % 32) % 2 ^ 32
  rw [show 31 % 2 ^ 32 = 2 ^ 5 - 1 by decide, Nat.and_two_pow_sub_one_eq_mod]
  omega
theorem lt32 {k : Nat} (h : k < 32) : k = 0 ∨ k = 1 ∨ k = 2 ∨ k = 3 ∨ k = 4 ∨ k = 5 ∨ k = 6 ∨ k = 7 ∨ k = 8 ∨ k = 9 ∨ k = 10 ∨ k = 11 ∨ k = 12 ∨ k = 13 ∨ k = 14 ∨ k = 15 ∨ k = 16 ∨ k = 17 ∨ k = 18 ∨ k = 19 ∨ k = 20 ∨ k = 21 ∨ k = 22 ∨ k = 23 ∨ k = 24 ∨ k = 25 ∨ (25 < k ∧ k < 32) := by omega
def WW (cI cS cII : ClassId) (RA DA : Nat → Nat) (R_u : Int32) (R_q : Int32) (R_r : Int32) (X_c : Nat → Int32) (X_d : Nat → Int32) (X_n : Int32) (N_k : Nat → Int32) (N_f : Nat → Int32) (N_t : Nat → Int32) (N_w : Nat → Int32) (N_l : Int32) (N_b : Int32) (L_G : Nat → Nat → Int32) (L_l : Int32) (T_x : Nat → Int32) (A_i : Nat → Int32) (A_p : Nat → Int32) (A_t : Nat → Int32) (A_m : Int32) (M_v : Nat → Int32) (M_m : Nat → Int32) (M_s : Int32) (Q_v : Nat → Int32) (Q_m : Nat → Int32) (Q_s : Int32) (O_v : Nat → Int32) (O_n : Nat → Int32) (O_s : Int32) (O_a : Int32) (E_p : Nat → Nat) (E_k : Nat → Nat → Int32) (E_f : Nat → Nat → Int32) (E_t : Nat → Nat → Int32) (E_w : Nat → Nat → Int32) (E_l : Nat → Int32) (E_b : Nat → Int32) (K_k : Nat → Nat → Int32) (K_f : Nat → Nat → Int32) (K_t : Nat → Nat → Int32) (K_w : Nat → Nat → Int32) (K_l : Nat → Int32) (K_b : Nat → Int32) (D_length : Int32) (D_text : Nat → Int32) (D_levels : Int32) (D_readLevels : Int32) (D_readAsked : Int32) (D_asked : Nat → Int32) (D_readKinds : Nat → Int32) (D_now : Nat → Int32) (D_before : Nat → Int32) (D_undoMany : Int32) (D_kept : Nat → Int32) (D_keptMany : Int32) (D_refused : Int32) (D_roundMany : Int32) (D_roundOver : Int32) (D_round : Nat → Int32) (D_terms : Int32) (D_termLevel : Nat → Int32) (D_termAdd : Nat → Int32) (D_spot : Int32) (D_number : Nat → Int32) (D_reach : Nat → Int32) (D_edge : Nat → Int32) (D_by : Nat → Int32) : va_W := WR cI cS cII RA R_u R_q R_r X_c X_d X_n N_k N_f N_t N_w N_l N_b L_G L_l T_x A_i A_p A_t A_m M_v M_m M_s Q_v Q_m Q_s O_v O_n O_s O_a E_p E_k E_f E_t E_w E_l E_b K_k K_f K_t K_w K_l K_b ++ W_X7_write cI cS cII DA D_length D_text D_levels D_readLevels D_readAsked D_asked D_readKinds D_now D_before D_undoMany D_kept D_keptMany D_refused D_roundMany D_roundOver D_round D_terms D_termLevel D_termAdd D_spot D_number D_reach D_edge D_by
/-- at this place, with any two states that are alike -/
def LK (J : nT) (cI cS cII : ClassId) (RA DA : Nat → Nat) (pc : Nat) (lv : List (Nat × Value)) : Prop := ∀ (n m cu ck cr cm len : Nat) (R_r : Int32) (X_c : Nat → Int32) (X_d : Nat → Int32) (N_k : Nat → Int32) (N_f : Nat → Int32) (N_t : Nat → Int32) (N_w : Nat → Int32) (L_G : Nat → Nat → Int32) (T_x : Nat → Int32) (A_i : Nat → Int32) (A_p : Nat → Int32) (A_t : Nat → Int32) (A_m : Int32) (M_v : Nat → Int32) (M_m : Nat → Int32) (Q_v : Nat → Int32) (Q_m : Nat → Int32) (Q_s : Int32) (O_v : Nat → Int32) (O_n : Nat → Int32) (O_a : Int32) (E_p : Nat → Nat) (E_k : Nat → Nat → Int32) (E_f : Nat → Nat → Int32) (E_t : Nat → Nat → Int32) (E_w : Nat → Nat → Int32) (E_l : Nat → Int32) (E_b : Nat → Int32) (K_k : Nat → Nat → Int32) (K_f : Nat → Nat → Int32) (K_t : Nat → Nat → Int32) (K_w : Nat → Nat → Int32) (K_l : Nat → Int32) (K_b : Nat → Int32) (D_text : Nat → Int32) (D_readLevels : Int32) (D_readAsked : Int32) (D_asked : Nat → Int32) (D_readKinds : Nat → Int32) (D_now : Nat → Int32) (D_before : Nat → Int32) (D_kept : Nat → Int32) (D_roundOver : Int32) (D_round : Nat → Int32) (D_termLevel : Nat → Int32) (D_termAdd : Nat → Int32) (D_spot : Int32) (D_number : Nat → Int32) (D_reach : Nat → Int32) (D_edge : Nat → Int32) (D_by : Nat → Int32), SM n m N_k N_f N_t N_w D_now → LG n m N_f N_t N_w L_G → UNr n cu E_p E_k E_f E_t E_w E_l E_b D_before → KPr n ck K_k K_f K_t K_w K_l K_b D_kept → RNr cr O_v D_round O_a D_roundOver → MXr n cm M_v M_m D_termLevel D_termAdd → TXr len X_c D_text → J 101 2538 (WW cI cS cII RA DA (nI cu) (nI ck) R_r X_c X_d (nI len) N_k N_f N_t N_w (nI n) (nI m) L_G (nI n) T_x A_i A_p A_t A_m M_v M_m (nI cm) Q_v Q_m Q_s O_v O_n (nI cr) O_a E_p E_k E_f E_t E_w E_l E_b K_k K_f K_t K_w K_l K_b (nI len) D_text (nI n) D_readLevels D_readAsked D_asked D_readKinds D_now D_before (nI cu) D_kept (nI ck) R_r (nI cr) D_roundOver D_round (nI cm) D_termLevel D_termAdd D_spot D_number D_reach D_edge D_by) pc lv []
theorem nestF_in : ∀ q ∈ nestF, Cond.fieldLinkNest q.1 q.2.1 q.2.2.1 q.2.2.2.1 q.2.2.2.2.1 q.2.2.2.2.2 ∈ lw_tbl := List.forall_mem_cons.mpr ⟨tb1 (i := 32) rfl, List.forall_mem_cons.mpr ⟨tb1 (i := 33) rfl, List.forall_mem_cons.mpr ⟨tb1 (i := 50) rfl, List.forall_mem_cons.mpr ⟨tb1 (i := 52) rfl, List.forall_mem_cons.mpr ⟨tb1 (i := 53) rfl, List.forall_mem_cons.mpr ⟨tb1 (i := 54) rfl, List.forall_mem_cons.mpr ⟨tb1 (i := 56) rfl, List.forall_mem_cons.mpr ⟨tb1 (i := 57) rfl, List.forall_mem_cons.mpr ⟨tb1 (i := 58) rfl, List.forall_mem_cons.mpr ⟨tb1 (i := 60) rfl, List.forall_mem_cons.mpr ⟨tb1 (i := 61) rfl, List.forall_mem_cons.mpr ⟨tb1 (i := 62) rfl, List.forall_mem_cons.mpr ⟨tb1 (i := 63) rfl, List.forall_mem_cons.mpr ⟨tb1 (i := 65) rfl, List.forall_mem_cons.mpr ⟨tb1 (i := 66) rfl, List.forall_mem_cons.mpr ⟨tb1 (i := 68) rfl, List.forall_mem_cons.mpr ⟨tb1 (i := 69) rfl, List.forall_mem_cons.mpr ⟨tb1 (i := 70) rfl, List.forall_mem_cons.mpr ⟨tb1 (i := 94) rfl, List.forall_mem_cons.mpr ⟨tb1 (i := 95) rfl, List.forall_mem_cons.mpr ⟨tb1 (i := 96) rfl, List.forall_mem_cons.mpr ⟨tb1 (i := 129) rfl, List.forall_mem_cons.mpr ⟨tb1 (i := 131) rfl, List.forall_mem_cons.mpr ⟨tb1 (i := 133) rfl, List.forall_mem_cons.mpr ⟨tb1 (i := 148) rfl, List.forall_mem_cons.mpr ⟨tb1 (i := 151) rfl, List.forall_mem_cons.mpr ⟨tb1 (i := 152) rfl, fun _ h => absurd h List.not_mem_nil⟩⟩⟩⟩⟩⟩⟩⟩⟩⟩⟩⟩⟩⟩⟩⟩⟩⟩⟩⟩⟩⟩⟩⟩⟩⟩⟩
theorem nestM_in : ∀ q ∈ nestM, Cond.methodLinkNest q.1 q.2.1 q.2.2.1 q.2.2.2 ∈ lw_tbl := List.forall_mem_cons.mpr ⟨tb1 (i := 26) rfl, List.forall_mem_cons.mpr ⟨tb1 (i := 45) rfl, List.forall_mem_cons.mpr ⟨tb1 (i := 87) rfl, List.forall_mem_cons.mpr ⟨tb1 (i := 105) rfl, List.forall_mem_cons.mpr ⟨tb1 (i := 124) rfl, List.forall_mem_cons.mpr ⟨tb1 (i := 143) rfl, List.forall_mem_cons.mpr ⟨tb1 (i := 211) rfl, List.forall_mem_cons.mpr ⟨tb1 (i := 219) rfl, List.forall_mem_cons.mpr ⟨tb1 (i := 223) rfl, List.forall_mem_cons.mpr ⟨tb2 (i := 6) rfl, List.forall_mem_cons.mpr ⟨tb2 (i := 10) rfl, List.forall_mem_cons.mpr ⟨tb2 (i := 14) rfl, List.forall_mem_cons.mpr ⟨tb2 (i := 30) rfl, List.forall_mem_cons.mpr ⟨tb2 (i := 34) rfl, List.forall_mem_cons.mpr ⟨tb2 (i := 39) rfl, List.forall_mem_cons.mpr ⟨tb2 (i := 63) rfl, List.forall_mem_cons.mpr ⟨tb2 (i := 70) rfl, List.forall_mem_cons.mpr ⟨tb2 (i := 127) rfl, List.forall_mem_cons.mpr ⟨tb2 (i := 148) rfl, List.forall_mem_cons.mpr ⟨tb2 (i := 163) rfl, List.forall_mem_cons.mpr ⟨tb2 (i := 179) rfl, List.forall_mem_cons.mpr ⟨tb2 (i := 203) rfl, List.forall_mem_cons.mpr ⟨tb2 (i := 227) rfl, List.forall_mem_cons.mpr ⟨tb3 (i := 8) rfl, List.forall_mem_cons.mpr ⟨tb3 (i := 25) rfl, List.forall_mem_cons.mpr ⟨tb3 (i := 30) rfl, List.forall_mem_cons.mpr ⟨tb3 (i := 35) rfl, List.forall_mem_cons.mpr ⟨tb3 (i := 47) rfl, List.forall_mem_cons.mpr ⟨tb3 (i := 59) rfl, List.forall_mem_cons.mpr ⟨tb3 (i := 104) rfl, List.forall_mem_cons.mpr ⟨tb3 (i := 113) rfl, fun _ h => absurd h List.not_mem_nil⟩⟩⟩⟩⟩⟩⟩⟩⟩⟩⟩⟩⟩⟩⟩⟩⟩⟩⟩⟩⟩⟩⟩⟩⟩⟩⟩⟩⟩⟩⟩
theorem kl_X6_write : cwOk yX6_write cX6_write 2 (some .int) 1 := ⟨tb2 (i := 118) rfl, tb1 (i := 1) rfl, by decide +kernel, by decide +kernel, by decide +kernel⟩
theorem kl_X6_wipe : cwOk yX6_wipe cX6_wipe 2 (some .int) 0 := ⟨tb2 (i := 122) rfl, tb1 (i := 1) rfl, by decide +kernel, by decide +kernel, by decide +kernel⟩
theorem kl_X6_fault : cwOk yX6_fault cX6_fault 1 (some .int) 0 := ⟨tb2 (i := 126) rfl, tb1 (i := 1) rfl, by decide +kernel, by decide +kernel, by decide +kernel⟩
theorem kl_X6_lay : cwOk yX6_lay cX6_lay 1 (some .int) 0 := ⟨tb2 (i := 139) rfl, tb1 (i := 1) rfl, by decide +kernel, by decide +kernel, by decide +kernel⟩
theorem kl_X6_level : cwOk yX6_level cX6_level 3 (some .int) 2 := ⟨tb2 (i := 143) rfl, tb1 (i := 1) rfl, by decide +kernel, by decide +kernel, by decide +kernel⟩
theorem kl_X6_bound : cwOk yX6_bound cX6_bound 3 (some .int) 2 := ⟨tb2 (i := 170) rfl, tb1 (i := 1) rfl, by decide +kernel, by decide +kernel, by decide +kernel⟩
theorem kl_X6_reach : cwOk yX6_reach cX6_reach 3 (some .int) 2 := ⟨tb2 (i := 187) rfl, tb1 (i := 1) rfl, by decide +kernel, by decide +kernel, by decide +kernel⟩
theorem kl_X6_ask : cwOk yX6_ask cX6_ask 4 (some .int) 3 := ⟨tb2 (i := 191) rfl, tb1 (i := 1) rfl, by decide +kernel, by decide +kernel, by decide +kernel⟩
theorem kl_X6_retract : cwOk yX6_retract cX6_retract 2 (some .int) 1 := ⟨tb2 (i := 202) rfl, tb1 (i := 1) rfl, by decide +kernel, by decide +kernel, by decide +kernel⟩
theorem kl_X6_rename : cwOk yX6_rename cX6_rename 4 (some .int) 2 := ⟨tb2 (i := 210) rfl, tb1 (i := 1) rfl, by decide +kernel, by decide +kernel, by decide +kernel⟩
theorem kl_X6_undo : cwOk yX6_undo cX6_undo 1 (some .int) 0 := ⟨tb2 (i := 214) rfl, tb1 (i := 1) rfl, by decide +kernel, by decide +kernel, by decide +kernel⟩
theorem kl_X6_round : cwOk yX6_round cX6_round 2 (some .int) 1 := ⟨tb2 (i := 222) rfl, tb1 (i := 1) rfl, by decide +kernel, by decide +kernel, by decide +kernel⟩
theorem kl_X6_follows : cwOk yX6_follows cX6_follows 4 (some .int) 3 := ⟨tb2 (i := 226) rfl, tb1 (i := 1) rfl, by decide +kernel, by decide +kernel, by decide +kernel⟩
theorem kl_X6_raised : cwOk yX6_raised cX6_raised 5 (some .int) 3 := ⟨tb2 (i := 235) rfl, tb1 (i := 1) rfl, by decide +kernel, by decide +kernel, by decide +kernel⟩
theorem kl_X6_top : cwOk yX6_top cX6_top 4 (some .int) 3 := ⟨tb3 (i := 3) rfl, tb1 (i := 1) rfl, by decide +kernel, by decide +kernel, by decide +kernel⟩
theorem kl_X6_stands : cwOk yX6_stands cX6_stands 6 (some .int) 4 := ⟨tb3 (i := 7) rfl, tb1 (i := 1) rfl, by decide +kernel, by decide +kernel, by decide +kernel⟩
theorem kl_X6_term : cwOk yX6_term cX6_term 3 (some .int) 2 := ⟨tb3 (i := 34) rfl, tb1 (i := 1) rfl, by decide +kernel, by decide +kernel, by decide +kernel⟩
theorem kl_X6_empty : cwOk yX6_empty cX6_empty 2 (some .int) 0 := ⟨tb3 (i := 42) rfl, tb1 (i := 1) rfl, by decide +kernel, by decide +kernel, by decide +kernel⟩
theorem kl_X6_brief : cwOk yX6_brief cX6_brief 3 (some .int) 0 := ⟨tb3 (i := 46) rfl, tb1 (i := 1) rfl, by decide +kernel, by decide +kernel, by decide +kernel⟩
theorem kl_X6_below : cwOk yX6_below cX6_below 4 (some .int) 2 := ⟨tb3 (i := 63) rfl, tb1 (i := 1) rfl, by decide +kernel, by decide +kernel, by decide +kernel⟩
theorem kl_X6_worth : cwOk yX6_worth cX6_worth 3 (some .int) 0 := ⟨tb3 (i := 67) rfl, tb1 (i := 1) rfl, by decide +kernel, by decide +kernel, by decide +kernel⟩
theorem kl_X6_roots : cwOk yX6_roots cX6_roots 4 (some .int) 1 := ⟨tb3 (i := 71) rfl, tb1 (i := 1) rfl, by decide +kernel, by decide +kernel, by decide +kernel⟩
theorem kl_X6_loose : cwOk yX6_loose cX6_loose 4 (some .int) 2 := ⟨tb3 (i := 83) rfl, tb1 (i := 1) rfl, by decide +kernel, by decide +kernel, by decide +kernel⟩
theorem kl_X6_keep : cwOk yX6_keep cX6_keep 1 (some .int) 0 := ⟨tb3 (i := 95) rfl, tb1 (i := 1) rfl, by decide +kernel, by decide +kernel, by decide +kernel⟩
theorem kl_X6_back : cwOk yX6_back cX6_back 1 (some .int) 0 := ⟨tb3 (i := 99) rfl, tb1 (i := 1) rfl, by decide +kernel, by decide +kernel, by decide +kernel⟩
theorem kl_X6_count : cwOk yX6_count cX6_count 2 (some .int) 1 := ⟨tb3 (i := 103) rfl, tb1 (i := 1) rfl, by decide +kernel, by decide +kernel, by decide +kernel⟩
theorem kl_X6_init : cwOk yX6_init cX6_init 2 none 0 := ⟨tb1 (i := 20) rfl, tb1 (i := 1) rfl, by decide +kernel, by decide +kernel, by decide +kernel⟩
theorem kl_X7_write : cwOk yX7_write cX7_write 2 (some .int) 1 := ⟨tb4 (i := 10) rfl, tb1 (i := 15) rfl, by decide +kernel, by decide +kernel, by decide +kernel⟩
theorem kl_X7_wipe : cwOk yX7_wipe cX7_wipe 2 (some .int) 0 := ⟨tb4 (i := 19) rfl, tb1 (i := 15) rfl, by decide +kernel, by decide +kernel, by decide +kernel⟩
theorem kl_X7_fault : cwOk yX7_fault cX7_fault 1 (some .int) 0 := ⟨tb4 (i := 23) rfl, tb1 (i := 15) rfl, by decide +kernel, by decide +kernel, by decide +kernel⟩
theorem kl_X7_lay : cwOk yX7_lay cX7_lay 1 (some .int) 0 := ⟨tb4 (i := 46) rfl, tb1 (i := 15) rfl, by decide +kernel, by decide +kernel, by decide +kernel⟩
theorem kl_X7_level : cwOk yX7_level cX7_level 6 (some .int) 2 := ⟨tb4 (i := 50) rfl, tb1 (i := 15) rfl, by decide +kernel, by decide +kernel, by decide +kernel⟩
theorem kl_X7_bound : cwOk yX7_bound cX7_bound 6 (some .int) 2 := ⟨tb4 (i := 71) rfl, tb1 (i := 15) rfl, by decide +kernel, by decide +kernel, by decide +kernel⟩
theorem kl_X7_reach : cwOk yX7_reach cX7_reach 3 (some .int) 2 := ⟨tb4 (i := 75) rfl, tb1 (i := 15) rfl, by decide +kernel, by decide +kernel, by decide +kernel⟩
theorem kl_X7_ask : cwOk yX7_ask cX7_ask 4 (some .int) 3 := ⟨tb4 (i := 79) rfl, tb1 (i := 15) rfl, by decide +kernel, by decide +kernel, by decide +kernel⟩
theorem kl_X7_retract : cwOk yX7_retract cX7_retract 3 (some .int) 1 := ⟨tb4 (i := 92) rfl, tb1 (i := 15) rfl, by decide +kernel, by decide +kernel, by decide +kernel⟩
theorem kl_X7_rename : cwOk yX7_rename cX7_rename 4 (some .int) 2 := ⟨tb4 (i := 96) rfl, tb1 (i := 15) rfl, by decide +kernel, by decide +kernel, by decide +kernel⟩
theorem kl_X7_undo : cwOk yX7_undo cX7_undo 2 (some .int) 0 := ⟨tb4 (i := 101) rfl, tb1 (i := 15) rfl, by decide +kernel, by decide +kernel, by decide +kernel⟩
theorem kl_X7_round : cwOk yX7_round cX7_round 2 (some .int) 1 := ⟨tb4 (i := 105) rfl, tb1 (i := 15) rfl, by decide +kernel, by decide +kernel, by decide +kernel⟩
theorem kl_X7_follows : cwOk yX7_follows cX7_follows 4 (some .int) 3 := ⟨tb4 (i := 111) rfl, tb1 (i := 15) rfl, by decide +kernel, by decide +kernel, by decide +kernel⟩
theorem kl_X7_raised : cwOk yX7_raised cX7_raised 6 (some .int) 3 := ⟨tb4 (i := 119) rfl, tb1 (i := 15) rfl, by decide +kernel, by decide +kernel, by decide +kernel⟩
theorem kl_X7_top : cwOk yX7_top cX7_top 5 (some .int) 3 := ⟨tb4 (i := 124) rfl, tb1 (i := 15) rfl, by decide +kernel, by decide +kernel, by decide +kernel⟩
theorem kl_X7_stands : cwOk yX7_stands cX7_stands 10 (some .int) 4 := ⟨tb4 (i := 128) rfl, tb1 (i := 15) rfl, by decide +kernel, by decide +kernel, by decide +kernel⟩
theorem kl_X7_term : cwOk yX7_term cX7_term 3 (some .int) 2 := ⟨tb4 (i := 141) rfl, tb1 (i := 15) rfl, by decide +kernel, by decide +kernel, by decide +kernel⟩
theorem kl_X7_empty : cwOk yX7_empty cX7_empty 2 (some .int) 0 := ⟨tb4 (i := 145) rfl, tb1 (i := 15) rfl, by decide +kernel, by decide +kernel, by decide +kernel⟩
theorem kl_X7_brief : cwOk yX7_brief cX7_brief 5 (some .int) 0 := ⟨tb4 (i := 149) rfl, tb1 (i := 15) rfl, by decide +kernel, by decide +kernel, by decide +kernel⟩
theorem kl_X7_below : cwOk yX7_below cX7_below 5 (some .int) 2 := ⟨tb4 (i := 157) rfl, tb1 (i := 15) rfl, by decide +kernel, by decide +kernel, by decide +kernel⟩
theorem kl_X7_worth : cwOk yX7_worth cX7_worth 4 (some .int) 0 := ⟨tb4 (i := 161) rfl, tb1 (i := 15) rfl, by decide +kernel, by decide +kernel, by decide +kernel⟩
theorem kl_X7_roots : cwOk yX7_roots cX7_roots 7 (some .int) 1 := ⟨tb4 (i := 165) rfl, tb1 (i := 15) rfl, by decide +kernel, by decide +kernel, by decide +kernel⟩
theorem kl_X7_loose : cwOk yX7_loose cX7_loose 6 (some .int) 2 := ⟨tb4 (i := 173) rfl, tb1 (i := 15) rfl, by decide +kernel, by decide +kernel, by decide +kernel⟩
theorem kl_X7_keep : cwOk yX7_keep cX7_keep 2 (some .int) 0 := ⟨tb4 (i := 177) rfl, tb1 (i := 15) rfl, by decide +kernel, by decide +kernel, by decide +kernel⟩
theorem kl_X7_back : cwOk yX7_back cX7_back 2 (some .int) 0 := ⟨tb4 (i := 181) rfl, tb1 (i := 15) rfl, by decide +kernel, by decide +kernel, by decide +kernel⟩
theorem kl_X7_count : cwOk yX7_count cX7_count 2 (some .int) 1 := ⟨tb4 (i := 185) rfl, tb1 (i := 15) rfl, by decide +kernel, by decide +kernel, by decide +kernel⟩
theorem kl_X7_init : cwOk yX7_init cX7_init 1 none 0 := ⟨tb3 (i := 121) rfl, tb1 (i := 15) rfl, by decide +kernel, by decide +kernel, by decide +kernel⟩
