theorem kw_381 : Cond.fieldLink RX6 55 (TX6 10).1 (TX6 10).2.1 (TX6 10).2.2.1 ∈ lw_tbl := tb2 (i := 84) rfl
theorem kw_382 : Cond.methodLink RX6 266 yX6_isRoot ∈ lw_tbl := tb3 (i := 76) rfl
theorem kw_383 : cwOk yX6_isRoot cX6_isRoot 3 (some .boolean) 2 := ⟨tb3 (i := 79) rfl, tb1 (i := 1) rfl, by decide, by decide, by decide +kernel⟩
theorem kw_384 : Cond.instanceMethod yX6_isRoot ∈ lw_tbl := tb3 (i := 78) rfl
theorem kw_385 : Cond.selects RX6 yX6_isRoot yX6_isRoot ∈ lw_tbl := tsel (i := 44) (q := (⟨"UniverseLevels", "isRoot", "(II)Z"⟩, 13)) rfl
theorem kw_386 : Cond.methodLink RX6 209 yX6_gatherRoots ∈ lw_tbl := tb3 (i := 72) rfl
theorem kw_387 : cwOk yX6_gatherRoots cX6_gatherRoots 3 none 1 := ⟨tb3 (i := 75) rfl, tb1 (i := 1) rfl, by decide, by decide, by decide +kernel⟩
theorem kw_388 : Cond.instanceMethod yX6_gatherRoots ∈ lw_tbl := tb3 (i := 74) rfl
theorem kw_389 : Cond.selects RX6 yX6_gatherRoots yX6_gatherRoots ∈ lw_tbl := tsel (i := 43) (q := (⟨"UniverseLevels", "gatherRoots", "(I)V"⟩, 13)) rfl
theorem kw_390 : Cond.methodLink RX6 215 yX6_isPinned ∈ lw_tbl := tb3 (i := 88) rfl
theorem kw_391 : cwOk yX6_isPinned cX6_isPinned 3 (some .boolean) 1 := ⟨tb3 (i := 91) rfl, tb1 (i := 1) rfl, by decide, by decide, by decide +kernel⟩
theorem kw_392 : Cond.instanceMethod yX6_isPinned ∈ lw_tbl := tb3 (i := 90) rfl
theorem kw_393 : Cond.selects RX6 yX6_isPinned yX6_isPinned ∈ lw_tbl := tsel (i := 46) (q := (⟨"UniverseLevels", "isPinned", "(I)Z"⟩, 13)) rfl
theorem kw_394 : Cond.methodLink RX6 212 yX6_isLoose ∈ lw_tbl := tb3 (i := 84) rfl
theorem kw_395 : cwOk yX6_isLoose cX6_isLoose 3 (some .boolean) 1 := ⟨tb3 (i := 87) rfl, tb1 (i := 1) rfl, by decide, by decide, by decide +kernel⟩
theorem kw_396 : Cond.instanceMethod yX6_isLoose ∈ lw_tbl := tb3 (i := 86) rfl
theorem kw_397 : Cond.selects RX6 yX6_isLoose yX6_isLoose ∈ lw_tbl := tsel (i := 45) (q := (⟨"UniverseLevels", "isLoose", "(I)Z"⟩, 13)) rfl
theorem kw_398 : Cond.fieldLink RX6 226 (TX6 12).1 (TX6 12).2.1 (TX6 12).2.2.1 ∈ lw_tbl := tb2 (i := 86) rfl
theorem kw_399 : ((RX6, 229, yX1_greatestValue, "UniverseLevels") : String × Nat × MethodName × String) ∈ nestM := List.mem_of_getElem? (i := 29) rfl
theorem kw_400 : cwOk yX1_greatestValue cX1_greatestValue 3 (some .int) 0 := ⟨tb3 (i := 107) rfl, tb1 (i := 4) rfl, by decide, by decide, by decide +kernel⟩
theorem kw_401 : Cond.instanceMethod yX1_greatestValue ∈ lw_tbl := tb3 (i := 106) rfl
theorem kw_402 : Cond.selects RX1 yX1_greatestValue yX1_greatestValue ∈ lw_tbl := tsel (i := 47) (q := (⟨"UniverseLevels$Lengths", "greatestValue", "()I"⟩, 2)) rfl
theorem kw_403 : Cond.methodLink RX6 232 yX6_floatingOnes ∈ lw_tbl := tb3 (i := 109) rfl
theorem kw_404 : cwOk yX6_floatingOnes cX6_floatingOnes 3 (some .int) 0 := ⟨tb3 (i := 112) rfl, tb1 (i := 1) rfl, by decide, by decide, by decide +kernel⟩
theorem kw_405 : Cond.instanceMethod yX6_floatingOnes ∈ lw_tbl := tb3 (i := 111) rfl
theorem kw_406 : Cond.selects RX6 yX6_floatingOnes yX6_floatingOnes ∈ lw_tbl := tsel (i := 48) (q := (⟨"UniverseLevels", "floatingOnes", "()I"⟩, 13)) rfl
theorem kw_407 : Cond.fieldLink RX6 159 (TX6 3).1 (TX6 3).2.1 (TX6 3).2.2.1 ∈ lw_tbl := tb2 (i := 77) rfl
theorem kw_408 : Cond.fieldLink RX6 218 (TX6 5).1 (TX6 5).2.1 (TX6 5).2.2.1 ∈ lw_tbl := tb2 (i := 79) rfl
theorem kw_409 : ((RX6, 235, yX1_pairs, "UniverseLevels") : String × Nat × MethodName × String) ∈ nestM := List.mem_of_getElem? (i := 30) rfl
theorem kw_410 : cwOk yX1_pairs cX1_pairs 4 (some .int) 0 := ⟨tb3 (i := 116) rfl, tb1 (i := 4) rfl, by decide, by decide, by decide +kernel⟩
theorem kw_411 : Cond.instanceMethod yX1_pairs ∈ lw_tbl := tb3 (i := 115) rfl
theorem kw_412 : Cond.selects RX1 yX1_pairs yX1_pairs ∈ lw_tbl := tsel (i := 49) (q := (⟨"UniverseLevels$Lengths", "pairs", "()I"⟩, 2)) rfl
theorem kw_413 : Cond.fieldLink RX6 61 (TX6 11).1 (TX6 11).2.1 (TX6 11).2.2.1 ∈ lw_tbl := tb2 (i := 85) rfl
theorem kw_414 : ((RX6, 165, (TX2 2).1, (TX2 2).2.1, (TX2 2).2.2.1, "UniverseLevels") : String × Nat × String × String × String × String) ∈ nestF := List.mem_of_getElem? (i := 25) rfl
theorem kw_415 : ((RX6, 171, (TX2 0).1, (TX2 0).2.1, (TX2 0).2.2.1, "UniverseLevels") : String × Nat × String × String × String × String) ∈ nestF := List.mem_of_getElem? (i := 24) rfl
theorem kw_416 : ((RX6, 168, (TX2 3).1, (TX2 3).2.1, (TX2 3).2.2.1, "UniverseLevels") : String × Nat × String × String × String × String) ∈ nestF := List.mem_of_getElem? (i := 26) rfl
theorem kw_417 : Cond.fieldLink RX6 23 (TX6 2).1 (TX6 2).2.1 (TX6 2).2.2.1 ∈ lw_tbl := tb2 (i := 76) rfl
theorem bp_7 : (Int8.ofInt (7)).toInt32 = (7 : Int32) := by decide
theorem kw_418 : ((RX6, 221, yX4_copy, "UniverseLevels") : String × Nat × MethodName × String) ∈ nestM := List.mem_of_getElem? (i := 15) rfl
theorem kw_419 : cwOk yX4_copy cX4_copy 2 none 1 := ⟨tb2 (i := 66) rfl, tb1 (i := 3) rfl, by decide, by decide, by decide +kernel⟩
theorem kw_420 : Cond.instanceMethod yX4_copy ∈ lw_tbl := tb2 (i := 65) rfl
theorem kw_421 : Cond.selects RX4 yX4_copy yX4_copy ∈ lw_tbl := tsel (i := 18) (q := (⟨"UniverseLevels$State", "copy", "(LUniverseLevels$State;)V"⟩, 6)) rfl
theorem kw_422 : Cond.methodLink RX6 148 yX6_remember ∈ lw_tbl := tb2 (i := 59) rfl
theorem kw_423 : cwOk yX6_remember cX6_remember 3 none 0 := ⟨tb2 (i := 62) rfl, tb1 (i := 1) rfl, by decide, by decide, by decide +kernel⟩
theorem kw_424 : Cond.instanceMethod yX6_remember ∈ lw_tbl := tb2 (i := 61) rfl
theorem kw_425 : Cond.selects RX6 yX6_remember yX6_remember ∈ lw_tbl := tsel (i := 17) (q := (⟨"UniverseLevels", "remember", "()V"⟩, 13)) rfl
theorem kw_426 : ((RX6, 151, yX4_takeBack, "UniverseLevels") : String × Nat × MethodName × String) ∈ nestM := List.mem_of_getElem? (i := 21) rfl
theorem kw_427 : cwOk yX4_takeBack cX4_takeBack 3 none 1 := ⟨tb2 (i := 206) rfl, tb1 (i := 3) rfl, by decide, by decide, by decide +kernel⟩
theorem kw_428 : Cond.instanceMethod yX4_takeBack ∈ lw_tbl := tb2 (i := 205) rfl
theorem kw_429 : Cond.selects RX4 yX4_takeBack yX4_takeBack ∈ lw_tbl := tsel (i := 31) (q := (⟨"UniverseLevels$State", "takeBack", "(I)V"⟩, 6)) rfl
theorem kw_430 : ((RX6, 155, yX1_measure, "UniverseLevels") : String × Nat × MethodName × String) ∈ nestM := List.mem_of_getElem? (i := 10) rfl
theorem kw_431 : cwOk yX1_measure cX1_measure 3 none 1 := ⟨tb2 (i := 13) rfl, tb1 (i := 4) rfl, by decide, by decide, by decide +kernel⟩
theorem kw_432 : Cond.instanceMethod yX1_measure ∈ lw_tbl := tb2 (i := 12) rfl
theorem kw_433 : Cond.selects RX1 yX1_measure yX1_measure ∈ lw_tbl := tsel (i := 8) (q := (⟨"UniverseLevels$Lengths", "measure", "(LUniverseLevels$State;)V"⟩, 2)) rfl
section
def W_X6_isRoot (cI cS cII : ClassId) (RA : Nat → Nat) (R_u : Int32) (R_q : Int32) (R_r : Int32) (N_k : Nat → Int32) (N_f : Nat → Int32) (N_t : Nat → Int32) (N_w : Nat → Int32) (N_l : Int32) (N_b : Int32) (L_G : Nat → Nat → Int32) (L_l : Int32) : va_W := ([((RA 0), .inr (6, [.ref (RA 1), .ref (RA 4), .ref (RA 9), .int R_u, .ref (RA 10), .int R_q, .ref (RA 11), .ref (RA 23), .ref (RA 24), .ref (RA 28), .ref (RA 31), .ref (RA 34), .int R_r])), ((RA 4), .inr (4, [.ref (RA 5), .ref (RA 6), .ref (RA 7), .ref (RA 8), .int N_l, .int N_b])), ((RA 5), .inl (cI, 10, .inl N_k)), ((RA 6), .inl (cI, 16, .inl N_f)), ((RA 7), .inl (cI, 16, .inl N_t)), ((RA 8), .inl (cI, 16, .inl N_w)), ((RA 11), .inr (1, [.ref (RA 12), .int L_l])), ((RA 12), .inl (cII, 10, .inr (.inr (.inr (.inr (fun i => some (RA (i + 13))))))))] ++ rw10 cI (fun i => RA (i + 13)) L_G)
abbrev Rm_X6_isRoot : Room := { frames := 1, cells := 0, slots := 0, locals := 22 }
variable {l : Launch} {D : va_G} {cI cS cII : ClassId} {RA : Nat → Nat} {A : Nat → Prop} {J : jT}
variable {z_r : Int32}
def p_X6_isRoot (N_k : Nat → Int32) (L_G : Nat → Nat → Int32) (a1 : Int32) (a2 : Int32) : Option (Int32) := if a1 = a2 then (some 0) else ((p_X4_isFloating N_k a1).bind fun r3 => if r3 = 0 then ((p_X1_leads L_G a1 a2).bind fun r6 => if r6 = 0 then (some 0) else (some 1)) else (some 0))
end
set_option maxRecDepth 100000 in
theorem c_X6_isRoot (l : Launch) (D : va_G) (cI cS cII : ClassId) (RA : Nat → Nat) (R_u : Int32) (R_q : Int32) (R_r : Int32) (N_k : Nat → Int32) (N_f : Nat → Int32) (N_t : Nat → Int32) (N_w : Nat → Int32) (N_l : Int32) (N_b : Int32) (L_G : Nat → Nat → Int32) (L_l : Int32) (a1 : Int32) (a2 : Int32) {z_r : Int32} (hF : p_X6_isRoot N_k L_G a1 a2 = some z_r) : MJ l yX6_isRoot cX6_isRoot 3 (some .boolean) Rm_X6_isRoot D (tysU cI cS cII) [.ref (RA 0), .int a1, .int a2] (W_X6_isRoot cI cS cII RA R_u R_q R_r N_k N_f N_t N_w N_l N_b L_G L_l) (some z_r) (W_X6_isRoot cI cS cII RA R_u R_q R_r N_k N_f N_t N_w N_l N_b L_G L_l) := by
  refine mj_of (own := RX6) (by decide) rfl (Nat.le_of_ble_eq_true rfl) (fun J hJ => ?_)
  show J (W_X6_isRoot cI cS cII RA R_u R_q R_r N_k N_f N_t N_w N_l N_b L_G L_l) 0 [(0, .ref (RA 0)), (1, .int a1), (2, .int a2)] []
  unfold p_X6_isRoot at hF
  refine jj_iload_n hJ dX6_isRoot_0 1 rfl rfl ?_
  refine jj_iload_n hJ dX6_isRoot_1 2 rfl rfl ?_
  refine jj_icmp_eq hJ 32 dX6_isRoot_2 rfl (fun c1 => ?_) (fun c1 => ?_)
  · replace hF := ip c1 hF
    refine jj_iconst hJ dX6_isRoot_32 ic_0 ?_
    cases Option.some.inj hF
    exact jj_zret hJ (Or.inl rfl) dX6_isRoot_33
  · replace hF := iq c1 hF
    refine jj_aload_n hJ dX6_isRoot_5 0 rfl rfl ?_
    refine jj_get hJ lay_X6 dX6_isRoot_6 0 1 rfl rfl (Nat.le_of_ble_eq_true rfl) kw_306 rfl ?_
    refine jj_iload_n hJ dX6_isRoot_9 1 rfl rfl ?_
    obtain ⟨r3, h2, hF⟩ := ob hF
    refine jj_callN0 hJ (c_X4_isFloating l D cI cS cII (fun i => RA (i + 4)) N_k N_f N_t N_w N_l N_b a1 h2) dX6_isRoot_10 kw_325 ⟨Nat.le_of_ble_eq_true rfl, Nat.le_of_ble_eq_true rfl, rfl, rfl⟩ kw_324 kw_326 kw_327 1 rfl rfl rfl rfl (Nat.le_of_ble_eq_true rfl) [1, 2, 3, 4, 5] rfl rfl ?_
    refine jj_if_ne hJ 32 dX6_isRoot_13 rfl (fun c4 => ?_) (fun c4 => ?_)
    · replace hF := iq c4 hF
      refine jj_iconst hJ dX6_isRoot_32 ic_0 ?_
      cases Option.some.inj hF
      exact jj_zret hJ (Or.inl rfl) dX6_isRoot_33
    · replace hF := ip c4 hF
      refine jj_aload_n hJ dX6_isRoot_16 0 rfl rfl ?_
      refine jj_get hJ lay_X6 dX6_isRoot_17 0 6 rfl rfl (Nat.le_of_ble_eq_true rfl) kw_308 rfl ?_
      refine jj_iload_n hJ dX6_isRoot_20 1 rfl rfl ?_
      refine jj_iload_n hJ dX6_isRoot_21 2 rfl rfl ?_
      obtain ⟨r6, h5, hF⟩ := ob hF
      refine jj_callN0 hJ (c_X1_leads l D cI cS cII (fun i => RA (i + 11)) L_G L_l a1 a2 h5) dX6_isRoot_22 kw_27 ⟨Nat.le_of_ble_eq_true rfl, Nat.le_of_ble_eq_true rfl, rfl, rfl⟩ kw_334 kw_28 kw_29 6 rfl rfl rfl rfl (Nat.le_of_ble_eq_true rfl) [6, 7, 8, 9, 10, 11, 12, 13, 14, 15, 16, 17] rfl rfl ?_
      refine jj_if_eq hJ 32 dX6_isRoot_25 rfl (fun c7 => ?_) (fun c7 => ?_)
      · replace hF := ip c7 hF
        refine jj_iconst hJ dX6_isRoot_32 ic_0 ?_
        cases Option.some.inj hF
        exact jj_zret hJ (Or.inl rfl) dX6_isRoot_33
      · replace hF := iq c7 hF
        refine jj_iconst hJ dX6_isRoot_28 ic_1 ?_
        refine jj_goto hJ 33 dX6_isRoot_29 rfl ?_
        cases Option.some.inj hF
        exact jj_zret hJ (Or.inr rfl) dX6_isRoot_33
section
def W_X6_gatherRoots (cI cS cII : ClassId) (RA : Nat → Nat) (R_u : Int32) (R_q : Int32) (R_r : Int32) (N_k : Nat → Int32) (N_f : Nat → Int32) (N_t : Nat → Int32) (N_w : Nat → Int32) (N_l : Int32) (N_b : Int32) (Q_v : Nat → Int32) (Q_m : Nat → Int32) (Q_s : Int32) (L_G : Nat → Nat → Int32) (L_l : Int32) : va_W := ([((RA 0), .inr (6, [.ref (RA 1), .ref (RA 4), .ref (RA 9), .int R_u, .ref (RA 10), .int R_q, .ref (RA 11), .ref (RA 23), .ref (RA 24), .ref (RA 28), .ref (RA 31), .ref (RA 34), .int R_r])), ((RA 4), .inr (4, [.ref (RA 5), .ref (RA 6), .ref (RA 7), .ref (RA 8), .int N_l, .int N_b])), ((RA 5), .inl (cI, 10, .inl N_k)), ((RA 6), .inl (cI, 16, .inl N_f)), ((RA 7), .inl (cI, 16, .inl N_t)), ((RA 8), .inl (cI, 16, .inl N_w)), ((RA 31), .inr (3, [.ref (RA 32), .ref (RA 33), .int Q_s])), ((RA 32), .inl (cI, 10, .inl Q_v)), ((RA 33), .inl (cI, 10, .inl Q_m)), ((RA 11), .inr (1, [.ref (RA 12), .int L_l])), ((RA 12), .inl (cII, 10, .inr (.inr (.inr (.inr (fun i => some (RA (i + 13))))))))] ++ rw10 cI (fun i => RA (i + 13)) L_G)
abbrev Rm_X6_gatherRoots : Room := { frames := 2, cells := 0, slots := 0, locals := 44 }
variable {l : Launch} {D : va_G} {cI cS cII : ClassId} {RA : Nat → Nat} {A : Nat → Prop} {J : jT}
variable {z_Q_v : Nat → Int32} {z_Q_m : Nat → Int32} {z_Q_s : Int32}
def q_X6_gatherRoots_10 (N_k : Nat → Int32) (N_l : Int32) (L_G : Nat → Nat → Int32) (a1 : Int32)  : Nat → Int32 → (Nat → Int32) → (Nat → Int32) → Int32 → Option ((Nat → Int32) × (Nat → Int32) × Int32)
  | 0, _, _, _, _ => none
  | n + 1, v2, Q_v, Q_m, Q_s => if N_l ≤ v2 then (some (Q_v, Q_m, Q_s)) else ((p_X6_isRoot N_k L_G v2 a1).bind fun r3 => if r3 = 0 then (q_X6_gatherRoots_10 N_k N_l L_G a1 n (v2 + 1) Q_v Q_m Q_s) else ((ix 10 v2).bind fun j5 => (rd (L_G j5) 10 a1).bind fun x7 => (p_X3_add Q_v Q_m Q_s v2 x7).bind fun (g10, g11, g12) => q_X6_gatherRoots_10 N_k N_l L_G a1 n (v2 + 1) g10 g11 g12))
set_option maxRecDepth 100000 in
theorem w_X6_gatherRoots_10 {R_u : Int32} {R_q : Int32} {R_r : Int32} {N_k : Nat → Int32} {N_f : Nat → Int32} {N_t : Nat → Int32} {N_w : Nat → Int32} {N_l : Int32} {N_b : Int32} {L_G : Nat → Nat → Int32} {L_l : Int32} {a1 : Int32}  (hJ : jJ l cX6_gatherRoots 3 D (tysU cI cS cII) RX6 Rm_X6_gatherRoots none A none (W_X6_gatherRoots cI cS cII RA R_u R_q R_r N_k N_f N_t N_w N_l N_b z_Q_v z_Q_m z_Q_s L_G L_l) J)  : ∀ (n : Nat) (v2 : Int32) (Q_v : Nat → Int32) (Q_m : Nat → Int32) (Q_s : Int32), q_X6_gatherRoots_10 N_k N_l L_G a1 n v2 Q_v Q_m Q_s = some (z_Q_v, z_Q_m, z_Q_s) → J (W_X6_gatherRoots cI cS cII RA R_u R_q R_r N_k N_f N_t N_w N_l N_b Q_v Q_m Q_s L_G L_l) 10 [(2, .int v2), (0, .ref (RA 0)), (1, .int a1)] [] := by
  intro n
  induction n with
  | zero =>
    intro v2 Q_v Q_m Q_s hF
    exact no_some (show (none : Option ((Nat → Int32) × (Nat → Int32) × Int32)) = some (z_Q_v, z_Q_m, z_Q_s) from hF)
  | succ n ih =>
    intro v2 Q_v Q_m Q_s hF
    rw [q_X6_gatherRoots_10.eq_2] at hF
    refine jj_iload_n hJ dX6_gatherRoots_10 0 rfl rfl ?_
    refine jj_aload_n hJ dX6_gatherRoots_11 1 rfl rfl ?_
    refine jj_get hJ lay_X6 dX6_gatherRoots_12 0 1 rfl rfl (Nat.le_of_ble_eq_true rfl) kw_306 rfl ?_
    refine jj_getN hJ lay_X4 dX6_gatherRoots_15 1 4 rfl rfl (Nat.le_of_ble_eq_true rfl) kw_307 rfl ?_
    refine jj_icmp_ge hJ 55 dX6_gatherRoots_18 rfl (fun c1 => ?_) (fun c1 => ?_)
    · replace hF := ip c1 hF
      cases Option.some.inj hF
      exact jj_vret hJ dX6_gatherRoots_55
    · replace hF := iq c1 hF
      refine jj_aload_n hJ dX6_gatherRoots_21 1 rfl rfl ?_
      refine jj_iload_n hJ dX6_gatherRoots_22 0 rfl rfl ?_
      refine jj_iload_n hJ dX6_gatherRoots_23 2 rfl rfl ?_
      obtain ⟨r3, h2, hF⟩ := ob hF
      refine jj_callV0 hJ (c_X6_isRoot l D cI cS cII RA R_u R_q R_r N_k N_f N_t N_w N_l N_b L_G L_l v2 a1 h2) dX6_gatherRoots_24 kw_383 ⟨Nat.le_of_ble_eq_true rfl, Nat.le_of_ble_eq_true rfl, rfl, rfl⟩ kw_382 kw_384 kw_385 0 rfl rfl rfl rfl (Nat.le_of_ble_eq_true rfl) [0, 1, 2, 3, 4, 5, 9, 10, 11, 12, 13, 14, 15, 16, 17, 18, 19, 20] rfl rfl ?_
      refine jj_if_eq hJ 49 dX6_gatherRoots_27 rfl (fun c4 => ?_) (fun c4 => ?_)
      · replace hF := ip c4 hF
        refine jj_iinc hJ dX6_gatherRoots_49 0 rfl (v := v2 + 1) (by rw [ic_1]) (Nat.le_of_ble_eq_true rfl) (lv' := [(2, .int (v2 + 1)), (0, .ref (RA 0)), (1, .int a1)]) rfl ?_
        refine jj_goto hJ 10 dX6_gatherRoots_52 rfl ?_
        exact ih (v2 + 1) Q_v Q_m Q_s hF
      · replace hF := iq c4 hF
        refine jj_aload_n hJ dX6_gatherRoots_30 1 rfl rfl ?_
        refine jj_get hJ lay_X6 dX6_gatherRoots_31 0 10 rfl rfl (Nat.le_of_ble_eq_true rfl) kw_381 rfl ?_
        refine jj_iload_n hJ dX6_gatherRoots_34 0 rfl rfl ?_
        refine jj_aload_n hJ dX6_gatherRoots_35 1 rfl rfl ?_
        refine jj_get hJ lay_X6 dX6_gatherRoots_36 0 6 rfl rfl (Nat.le_of_ble_eq_true rfl) kw_308 rfl ?_
        refine jj_getN hJ lay_X1 dX6_gatherRoots_39 9 0 rfl rfl (Nat.le_of_ble_eq_true rfl) kw_310 rfl ?_
        refine jj_iload_n hJ dX6_gatherRoots_42 0 rfl rfl ?_
        obtain ⟨j5, h6, hF⟩ := ob hF
        refine jj_aald hJ dX6_gatherRoots_43 10 2 rfl rfl rfl (ix_some h6).1 (congrArg (fun i => some (RA (i + 13))) (ix_some h6).2.1) ?_
        refine jj_iload_n hJ dX6_gatherRoots_44 2 rfl rfl ?_
        obtain ⟨x7, h8, hF⟩ := ob hF
        refine jj_iald hJ dX6_gatherRoots_45 (11 + j5) 0 (rw10_get _ (ix_some h6).2.2) rfl h8 ?_
        obtain ⟨⟨g10, g11, g12⟩, h9, hF⟩ := ob hF
        refine jj_callN hJ (c_X3_add l D cI cS cII (fun i => RA (i + 31)) Q_v Q_m Q_s v2 x7 h9) dX6_gatherRoots_46 kw_372 ⟨Nat.le_of_ble_eq_true rfl, Nat.le_of_ble_eq_true rfl, rfl, rfl⟩ kw_371 kw_373 kw_374 6 rfl rfl rfl rfl (Nat.le_of_ble_eq_true rfl) [6, 7, 8] rfl rfl (wn := (W_X6_gatherRoots cI cS cII RA R_u R_q R_r N_k N_f N_t N_w N_l N_b g10 g11 g12 L_G L_l)) (jNew_sel rfl [none, none, none, none, none, none, some 0, some 1, some 2, none, none, none, none, none, none, none, none, none, none, none, none] (by decide +kernel) rfl) ?_
        refine jj_iinc hJ dX6_gatherRoots_49 0 rfl (v := v2 + 1) (by rw [ic_1]) (Nat.le_of_ble_eq_true rfl) (lv' := [(2, .int (v2 + 1)), (0, .ref (RA 0)), (1, .int a1)]) rfl ?_
        refine jj_goto hJ 10 dX6_gatherRoots_52 rfl ?_
        exact ih (v2 + 1) g10 g11 g12 hF
def p_X6_gatherRoots (N_k : Nat → Int32) (N_l : Int32) (Q_v : Nat → Int32) (Q_m : Nat → Int32) (Q_s : Int32) (L_G : Nat → Nat → Int32) (a1 : Int32) : Option ((Nat → Int32) × (Nat → Int32) × Int32) := q_X6_gatherRoots_10 N_k N_l L_G a1 FU 0 Q_v Q_m 0
end
set_option maxRecDepth 100000 in
theorem c_X6_gatherRoots (l : Launch) (D : va_G) (cI cS cII : ClassId) (RA : Nat → Nat) (R_u : Int32) (R_q : Int32) (R_r : Int32) (N_k : Nat → Int32) (N_f : Nat → Int32) (N_t : Nat → Int32) (N_w : Nat → Int32) (N_l : Int32) (N_b : Int32) (Q_v : Nat → Int32) (Q_m : Nat → Int32) (Q_s : Int32) (L_G : Nat → Nat → Int32) (L_l : Int32) (a1 : Int32) {z_Q_v : Nat → Int32} {z_Q_m : Nat → Int32} {z_Q_s : Int32} (hF : p_X6_gatherRoots N_k N_l Q_v Q_m Q_s L_G a1 = some (z_Q_v, z_Q_m, z_Q_s)) : MJ l yX6_gatherRoots cX6_gatherRoots 3 none Rm_X6_gatherRoots D (tysU cI cS cII) [.ref (RA 0), .int a1] (W_X6_gatherRoots cI cS cII RA R_u R_q R_r N_k N_f N_t N_w N_l N_b Q_v Q_m Q_s L_G L_l) none (W_X6_gatherRoots cI cS cII RA R_u R_q R_r N_k N_f N_t N_w N_l N_b z_Q_v z_Q_m z_Q_s L_G L_l) := by
  refine mj_of (own := RX6) (by decide) rfl (Nat.le_of_ble_eq_true rfl) (fun J hJ => ?_)
  show J (W_X6_gatherRoots cI cS cII RA R_u R_q R_r N_k N_f N_t N_w N_l N_b Q_v Q_m Q_s L_G L_l) 0 [(0, .ref (RA 0)), (1, .int a1)] []
  unfold p_X6_gatherRoots at hF
  refine jj_aload_n hJ dX6_gatherRoots_0 0 rfl rfl ?_
  refine jj_get hJ lay_X6 dX6_gatherRoots_1 0 10 rfl rfl (Nat.le_of_ble_eq_true rfl) kw_381 rfl ?_
  refine jj_iconst hJ dX6_gatherRoots_4 ic_0 ?_
  refine jj_putN hJ lay_X3 tyX3 tyX3_ok nmX3 dX6_gatherRoots_5 6 2 rfl rfl (Nat.le_of_ble_eq_true rfl) kw_370 rfl rfl (Nat.le_of_ble_eq_true rfl) (wn := (W_X6_gatherRoots cI cS cII RA R_u R_q R_r N_k N_f N_t N_w N_l N_b Q_v Q_m 0 L_G L_l)) rfl ?_
  refine jj_iconst hJ dX6_gatherRoots_8 ic_0 ?_
  refine jj_istore_n hJ dX6_gatherRoots_9 rfl (Nat.le_of_ble_eq_true rfl) (lv' := [(2, .int 0), (0, .ref (RA 0)), (1, .int a1)]) rfl ?_
  exact w_X6_gatherRoots_10 hJ  FU 0 Q_v Q_m 0 hF
section
def W_X6_roots (cI cS cII : ClassId) (RA : Nat → Nat) (R_u : Int32) (R_q : Int32) (R_r : Int32) (N_k : Nat → Int32) (N_f : Nat → Int32) (N_t : Nat → Int32) (N_w : Nat → Int32) (N_l : Int32) (N_b : Int32) (Q_v : Nat → Int32) (Q_m : Nat → Int32) (Q_s : Int32) (L_G : Nat → Nat → Int32) (L_l : Int32) : va_W := ([((RA 0), .inr (6, [.ref (RA 1), .ref (RA 4), .ref (RA 9), .int R_u, .ref (RA 10), .int R_q, .ref (RA 11), .ref (RA 23), .ref (RA 24), .ref (RA 28), .ref (RA 31), .ref (RA 34), .int R_r])), ((RA 4), .inr (4, [.ref (RA 5), .ref (RA 6), .ref (RA 7), .ref (RA 8), .int N_l, .int N_b])), ((RA 5), .inl (cI, 10, .inl N_k)), ((RA 6), .inl (cI, 16, .inl N_f)), ((RA 7), .inl (cI, 16, .inl N_t)), ((RA 8), .inl (cI, 16, .inl N_w)), ((RA 31), .inr (3, [.ref (RA 32), .ref (RA 33), .int Q_s])), ((RA 32), .inl (cI, 10, .inl Q_v)), ((RA 33), .inl (cI, 10, .inl Q_m)), ((RA 11), .inr (1, [.ref (RA 12), .int L_l])), ((RA 12), .inl (cII, 10, .inr (.inr (.inr (.inr (fun i => some (RA (i + 13))))))))] ++ rw10 cI (fun i => RA (i + 13)) L_G)
abbrev Rm_X6_roots : Room := { frames := 5, cells := 0, slots := 0, locals := 114 }
variable {l : Launch} {D : va_G} {cI cS cII : ClassId} {RA : Nat → Nat} {A : Nat → Prop} {J : jT}
variable {z_r : Int32} {z_Q_v : Nat → Int32} {z_Q_m : Nat → Int32} {z_Q_s : Int32}
def q_X6_roots_33 (N_k : Nat → Int32) (N_l : Int32) (L_G : Nat → Nat → Int32) (a1 : Int32)  : Nat → Int32 → Int32 → (Nat → Int32) → (Nat → Int32) → Int32 → Option (Int32 × (Nat → Int32) × (Nat → Int32) × Int32)
  | 0, _, _, _, _, _ => none
  | n + 1, v3, v2, Q_v, Q_m, Q_s => if Q_s ≤ v3 then (some (v2, Q_v, Q_m, Q_s)) else ((p_X3_isShort Q_v Q_m Q_s L_G v3).bind fun r3 => if r3 = 0 then (q_X6_roots_33 N_k N_l L_G a1 n (v3 + 1) v2 Q_v Q_m Q_s) else ((rd Q_v 10 v3).bind fun x5 => q_X6_roots_33 N_k N_l L_G a1 n (v3 + 1) (v2 ||| (1 <<< (x5 &&& 31))) Q_v Q_m Q_s))
set_option maxRecDepth 100000 in
theorem w_X6_roots_33 {R_u : Int32} {R_q : Int32} {R_r : Int32} {N_k : Nat → Int32} {N_f : Nat → Int32} {N_t : Nat → Int32} {N_w : Nat → Int32} {N_l : Int32} {N_b : Int32} {L_G : Nat → Nat → Int32} {L_l : Int32} {a1 : Int32}  (hJ : jJ l cX6_roots 4 D (tysU cI cS cII) RX6 Rm_X6_roots (some .int) A (some z_r) (W_X6_roots cI cS cII RA R_u R_q R_r N_k N_f N_t N_w N_l N_b z_Q_v z_Q_m z_Q_s L_G L_l) J)  : ∀ (n : Nat) (v3 : Int32) (v2 : Int32) (Q_v : Nat → Int32) (Q_m : Nat → Int32) (Q_s : Int32), q_X6_roots_33 N_k N_l L_G a1 n v3 v2 Q_v Q_m Q_s = some (z_r, z_Q_v, z_Q_m, z_Q_s) → J (W_X6_roots cI cS cII RA R_u R_q R_r N_k N_f N_t N_w N_l N_b Q_v Q_m Q_s L_G L_l) 33 [(3, .int v3), (2, .int v2), (0, .ref (RA 0))] [] := by
  intro n
  induction n with
  | zero =>
    intro v3 v2 Q_v Q_m Q_s hF
    exact no_some (show (none : Option (Int32 × (Nat → Int32) × (Nat → Int32) × Int32)) = some (z_r, z_Q_v, z_Q_m, z_Q_s) from hF)
  | succ n ih =>
    intro v3 v2 Q_v Q_m Q_s hF
    rw [q_X6_roots_33.eq_2] at hF
    refine jj_iload_n hJ dX6_roots_33 0 rfl rfl ?_
    refine jj_aload_n hJ dX6_roots_34 2 rfl rfl ?_
    refine jj_get hJ lay_X6 dX6_roots_35 0 10 rfl rfl (Nat.le_of_ble_eq_true rfl) kw_381 rfl ?_
    refine jj_getN hJ lay_X3 dX6_roots_38 6 2 rfl rfl (Nat.le_of_ble_eq_true rfl) kw_370 rfl ?_
    refine jj_icmp_ge hJ 79 dX6_roots_41 rfl (fun c1 => ?_) (fun c1 => ?_)
    · replace hF := ip c1 hF
      refine jj_iload_n hJ dX6_roots_79 1 rfl rfl ?_
      cases Option.some.inj hF
      exact jj_iret hJ dX6_roots_80
    · replace hF := iq c1 hF
      refine jj_aload_n hJ dX6_roots_44 2 rfl rfl ?_
      refine jj_get hJ lay_X6 dX6_roots_45 0 10 rfl rfl (Nat.le_of_ble_eq_true rfl) kw_381 rfl ?_
      refine jj_iload_n hJ dX6_roots_48 0 rfl rfl ?_
      refine jj_aload_n hJ dX6_roots_49 2 rfl rfl ?_
      refine jj_get hJ lay_X6 dX6_roots_50 0 6 rfl rfl (Nat.le_of_ble_eq_true rfl) kw_308 rfl ?_
      obtain ⟨r3, h2, hF⟩ := ob hF
      refine jj_callN0 hJ (c_X3_isShort l D cI cS cII (fun i => RA (i + 31)) (fun i => RA (i + 11)) Q_v Q_m Q_s L_G L_l v3 h2) dX6_roots_53 kw_376 ⟨Nat.le_of_ble_eq_true rfl, Nat.le_of_ble_eq_true rfl, rfl, rfl⟩ kw_375 kw_377 kw_378 6 rfl rfl rfl rfl (Nat.le_of_ble_eq_true rfl) [6, 7, 8, 9, 10, 11, 12, 13, 14, 15, 16, 17, 18, 19, 20] rfl rfl ?_
      refine jj_if_eq hJ 73 dX6_roots_56 rfl (fun c4 => ?_) (fun c4 => ?_)
      · replace hF := ip c4 hF
        refine jj_iinc hJ dX6_roots_73 0 rfl (v := v3 + 1) (by rw [ic_1]) (Nat.le_of_ble_eq_true rfl) (lv' := [(3, .int (v3 + 1)), (2, .int v2), (0, .ref (RA 0))]) rfl ?_
        refine jj_goto hJ 33 dX6_roots_76 rfl ?_
        exact ih (v3 + 1) v2 Q_v Q_m Q_s hF
      · replace hF := iq c4 hF
        refine jj_iload_n hJ dX6_roots_59 1 rfl rfl ?_
        refine jj_iconst hJ dX6_roots_60 ic_1 ?_
        refine jj_aload_n hJ dX6_roots_61 2 rfl rfl ?_
        refine jj_get hJ lay_X6 dX6_roots_62 0 10 rfl rfl (Nat.le_of_ble_eq_true rfl) kw_381 rfl ?_
        refine jj_getN hJ lay_X3 dX6_roots_65 6 0 rfl rfl (Nat.le_of_ble_eq_true rfl) kw_379 rfl ?_
        refine jj_iload_n hJ dX6_roots_68 0 rfl rfl ?_
        obtain ⟨x5, h6, hF⟩ := ob hF
        refine jj_iald hJ dX6_roots_69 7 0 rfl rfl h6 ?_
        refine jj_ishl hJ dX6_roots_70 ?_
        refine jj_ior hJ dX6_roots_71 ?_
        refine jj_istore_n hJ dX6_roots_72 rfl (Nat.le_of_ble_eq_true rfl) (lv' := [(2, .int (v2 ||| (1 <<< (x5 &&& 31)))), (3, .int v3), (0, .ref (RA 0))]) rfl ?_
        refine jj_iinc hJ dX6_roots_73 1 rfl (v := v3 + 1) (by rw [ic_1]) (Nat.le_of_ble_eq_true rfl) (lv' := [(3, .int (v3 + 1)), (2, .int (v2 ||| (1 <<< (x5 &&& 31)))), (0, .ref (RA 0))]) rfl ?_
        refine jj_goto hJ 33 dX6_roots_76 rfl ?_
        exact ih (v3 + 1) (v2 ||| (1 <<< (x5 &&& 31))) Q_v Q_m Q_s hF
def p_X6_roots (N_k : Nat → Int32) (N_l : Int32) (Q_v : Nat → Int32) (Q_m : Nat → Int32) (Q_s : Int32) (L_G : Nat → Nat → Int32) (a1 : Int32) : Option (Int32 × (Nat → Int32) × (Nat → Int32) × Int32) := (p_X6_isLevel N_l a1).bind fun r2 => if r2 = 0 then (some ((-1), Q_v, Q_m, Q_s)) else ((p_X4_isFloating N_k a1).bind fun r5 => if r5 = 0 then (some ((-2), Q_v, Q_m, Q_s)) else ((p_X6_gatherRoots N_k N_l Q_v Q_m Q_s L_G a1).bind fun (g8, g9, g10) => q_X6_roots_33 N_k N_l L_G a1 FU 0 0 g8 g9 g10))
end
set_option maxRecDepth 100000 in
theorem c_X6_roots (l : Launch) (D : va_G) (cI cS cII : ClassId) (RA : Nat → Nat) (R_u : Int32) (R_q : Int32) (R_r : Int32) (N_k : Nat → Int32) (N_f : Nat → Int32) (N_t : Nat → Int32) (N_w : Nat → Int32) (N_l : Int32) (N_b : Int32) (Q_v : Nat → Int32) (Q_m : Nat → Int32) (Q_s : Int32) (L_G : Nat → Nat → Int32) (L_l : Int32) (a1 : Int32) {z_r : Int32} {z_Q_v : Nat → Int32} {z_Q_m : Nat → Int32} {z_Q_s : Int32} (hF : p_X6_roots N_k N_l Q_v Q_m Q_s L_G a1 = some (z_r, z_Q_v, z_Q_m, z_Q_s)) : MJ l yX6_roots cX6_roots 4 (some .int) Rm_X6_roots D (tysU cI cS cII) [.ref (RA 0), .int a1] (W_X6_roots cI cS cII RA R_u R_q R_r N_k N_f N_t N_w N_l N_b Q_v Q_m Q_s L_G L_l) (some z_r) (W_X6_roots cI cS cII RA R_u R_q R_r N_k N_f N_t N_w N_l N_b z_Q_v z_Q_m z_Q_s L_G L_l) := by
  refine mj_of (own := RX6) (by decide) rfl (Nat.le_of_ble_eq_true rfl) (fun J hJ => ?_)
  show J (W_X6_roots cI cS cII RA R_u R_q R_r N_k N_f N_t N_w N_l N_b Q_v Q_m Q_s L_G L_l) 0 [(0, .ref (RA 0)), (1, .int a1)] []
  unfold p_X6_roots at hF
  refine jj_aload_n hJ dX6_roots_0 0 rfl rfl ?_
  refine jj_iload_n hJ dX6_roots_1 1 rfl rfl ?_
  obtain ⟨r2, h1, hF⟩ := ob hF
  refine jj_callV0 hJ (c_X6_isLevel l D cI cS cII RA R_u R_q R_r N_k N_f N_t N_w N_l N_b a1 h1) dX6_roots_2 kw_312 ⟨Nat.le_of_ble_eq_true rfl, Nat.le_of_ble_eq_true rfl, rfl, rfl⟩ kw_311 kw_313 kw_314 0 rfl rfl rfl rfl (Nat.le_of_ble_eq_true rfl) [0, 1, 2, 3, 4, 5] rfl rfl ?_
  refine jj_if_ne hJ 10 dX6_roots_5 rfl (fun c3 => ?_) (fun c3 => ?_)
  · replace hF := iq c3 hF
    refine jj_aload_n hJ dX6_roots_10 0 rfl rfl ?_
    refine jj_get hJ lay_X6 dX6_roots_11 0 1 rfl rfl (Nat.le_of_ble_eq_true rfl) kw_306 rfl ?_
    refine jj_iload_n hJ dX6_roots_14 1 rfl rfl ?_
    obtain ⟨r5, h4, hF⟩ := ob hF
    refine jj_callN0 hJ (c_X4_isFloating l D cI cS cII (fun i => RA (i + 4)) N_k N_f N_t N_w N_l N_b a1 h4) dX6_roots_15 kw_325 ⟨Nat.le_of_ble_eq_true rfl, Nat.le_of_ble_eq_true rfl, rfl, rfl⟩ kw_324 kw_326 kw_327 1 rfl rfl rfl rfl (Nat.le_of_ble_eq_true rfl) [1, 2, 3, 4, 5] rfl rfl ?_
    refine jj_if_ne hJ 24 dX6_roots_18 rfl (fun c6 => ?_) (fun c6 => ?_)
    · replace hF := iq c6 hF
      refine jj_aload_n hJ dX6_roots_24 0 rfl rfl ?_
      refine jj_iload_n hJ dX6_roots_25 1 rfl rfl ?_
      obtain ⟨⟨g8, g9, g10⟩, h7, hF⟩ := ob hF
      refine jj_callV hJ (c_X6_gatherRoots l D cI cS cII RA R_u R_q R_r N_k N_f N_t N_w N_l N_b Q_v Q_m Q_s L_G L_l a1 h7) dX6_roots_26 kw_387 ⟨Nat.le_of_ble_eq_true rfl, Nat.le_of_ble_eq_true rfl, rfl, rfl⟩ kw_386 kw_388 kw_389 0 rfl rfl rfl rfl (Nat.le_of_ble_eq_true rfl) [0, 1, 2, 3, 4, 5, 6, 7, 8, 9, 10, 11, 12, 13, 14, 15, 16, 17, 18, 19, 20] rfl rfl (wn := (W_X6_roots cI cS cII RA R_u R_q R_r N_k N_f N_t N_w N_l N_b g8 g9 g10 L_G L_l)) (jNew_sel rfl [some 0, some 1, some 2, some 3, some 4, some 5, some 6, some 7, some 8, some 9, some 10, some 11, some 12, some 13, some 14, some 15, some 16, some 17, some 18, some 19, some 20] (by decide +kernel) rfl) ?_
      refine jj_iconst hJ dX6_roots_29 ic_0 ?_
      refine jj_istore_n hJ dX6_roots_30 rfl (Nat.le_of_ble_eq_true rfl) (lv' := [(2, .int 0), (0, .ref (RA 0)), (1, .int a1)]) rfl ?_
      refine jj_iconst hJ dX6_roots_31 ic_0 ?_
      refine jj_istore_n hJ dX6_roots_32 rfl (Nat.le_of_ble_eq_true rfl) (lv' := [(3, .int 0), (2, .int 0), (0, .ref (RA 0)), (1, .int a1)]) rfl ?_
      refine jj_lv hJ [0, 1, 2] (lv' := [(3, .int 0), (2, .int 0), (0, .ref (RA 0))]) rfl ?_
      exact w_X6_roots_33 hJ  FU 0 0 g8 g9 g10 hF
    · replace hF := ip c6 hF
      refine jj_bipush hJ dX6_roots_21 bp_m2 ?_
      cases Option.some.inj hF
      exact jj_iret hJ dX6_roots_23
  · replace hF := ip c3 hF
    refine jj_iconst hJ dX6_roots_8 ic_m1 ?_
    cases Option.some.inj hF
    exact jj_iret hJ dX6_roots_9
section
def W_X6_isLoose (cI cS cII : ClassId) (RA : Nat → Nat) (R_u : Int32) (R_q : Int32) (R_r : Int32) (N_k : Nat → Int32) (N_f : Nat → Int32) (N_t : Nat → Int32) (N_w : Nat → Int32) (N_l : Int32) (N_b : Int32) (L_G : Nat → Nat → Int32) (L_l : Int32) : va_W := ([((RA 0), .inr (6, [.ref (RA 1), .ref (RA 4), .ref (RA 9), .int R_u, .ref (RA 10), .int R_q, .ref (RA 11), .ref (RA 23), .ref (RA 24), .ref (RA 28), .ref (RA 31), .ref (RA 34), .int R_r])), ((RA 4), .inr (4, [.ref (RA 5), .ref (RA 6), .ref (RA 7), .ref (RA 8), .int N_l, .int N_b])), ((RA 5), .inl (cI, 10, .inl N_k)), ((RA 6), .inl (cI, 16, .inl N_f)), ((RA 7), .inl (cI, 16, .inl N_t)), ((RA 8), .inl (cI, 16, .inl N_w)), ((RA 11), .inr (1, [.ref (RA 12), .int L_l])), ((RA 12), .inl (cII, 10, .inr (.inr (.inr (.inr (fun i => some (RA (i + 13))))))))] ++ rw10 cI (fun i => RA (i + 13)) L_G)
abbrev Rm_X6_isLoose : Room := { frames := 1, cells := 0, slots := 0, locals := 22 }
variable {l : Launch} {D : va_G} {cI cS cII : ClassId} {RA : Nat → Nat} {A : Nat → Prop} {J : jT}
variable {z_r : Int32}
def q_X6_isLoose_2 (N_k : Nat → Int32) (N_l : Int32) (L_G : Nat → Nat → Int32) (a1 : Int32)  : Nat → Int32 → Option (Int32)
  | 0, _ => none
  | n + 1, v2 => if N_l ≤ v2 then (some 1) else ((p_X4_isFloating N_k v2).bind fun r3 => if r3 = 0 then ((p_X1_leads L_G v2 a1).bind fun r6 => if r6 = 0 then ((p_X1_leads L_G a1 v2).bind fun r9 => if r9 = 0 then (q_X6_isLoose_2 N_k N_l L_G a1 n (v2 + 1)) else (some 0)) else (some 0)) else (q_X6_isLoose_2 N_k N_l L_G a1 n (v2 + 1)))
set_option maxRecDepth 100000 in
theorem w_X6_isLoose_2 {R_u : Int32} {R_q : Int32} {R_r : Int32} {N_k : Nat → Int32} {N_f : Nat → Int32} {N_t : Nat → Int32} {N_w : Nat → Int32} {N_l : Int32} {N_b : Int32} {L_G : Nat → Nat → Int32} {L_l : Int32} {a1 : Int32}  (hJ : jJ l cX6_isLoose 3 D (tysU cI cS cII) RX6 Rm_X6_isLoose (some .boolean) A (some z_r) (W_X6_isLoose cI cS cII RA R_u R_q R_r N_k N_f N_t N_w N_l N_b L_G L_l) J)  : ∀ (n : Nat) (v2 : Int32), q_X6_isLoose_2 N_k N_l L_G a1 n v2 = some z_r → J (W_X6_isLoose cI cS cII RA R_u R_q R_r N_k N_f N_t N_w N_l N_b L_G L_l) 2 [(2, .int v2), (0, .ref (RA 0)), (1, .int a1)] [] := by
  intro n
  induction n with
  | zero =>
    intro v2 hF
    exact no_some (show (none : Option (Int32)) = some z_r from hF)
  | succ n ih =>
    intro v2 hF
    rw [q_X6_isLoose_2.eq_2] at hF
    refine jj_iload_n hJ dX6_isLoose_2 0 rfl rfl ?_
    refine jj_aload_n hJ dX6_isLoose_3 1 rfl rfl ?_
    refine jj_get hJ lay_X6 dX6_isLoose_4 0 1 rfl rfl (Nat.le_of_ble_eq_true rfl) kw_306 rfl ?_
    refine jj_getN hJ lay_X4 dX6_isLoose_7 1 4 rfl rfl (Nat.le_of_ble_eq_true rfl) kw_307 rfl ?_
    refine jj_icmp_ge hJ 56 dX6_isLoose_10 rfl (fun c1 => ?_) (fun c1 => ?_)
    · replace hF := ip c1 hF
      refine jj_iconst hJ dX6_isLoose_56 ic_1 ?_
      cases Option.some.inj hF
      exact jj_zret hJ (Or.inr rfl) dX6_isLoose_57
    · replace hF := iq c1 hF
      refine jj_aload_n hJ dX6_isLoose_13 1 rfl rfl ?_
      refine jj_get hJ lay_X6 dX6_isLoose_14 0 1 rfl rfl (Nat.le_of_ble_eq_true rfl) kw_306 rfl ?_
      refine jj_iload_n hJ dX6_isLoose_17 0 rfl rfl ?_
      obtain ⟨r3, h2, hF⟩ := ob hF
      refine jj_callN0 hJ (c_X4_isFloating l D cI cS cII (fun i => RA (i + 4)) N_k N_f N_t N_w N_l N_b v2 h2) dX6_isLoose_18 kw_325 ⟨Nat.le_of_ble_eq_true rfl, Nat.le_of_ble_eq_true rfl, rfl, rfl⟩ kw_324 kw_326 kw_327 1 rfl rfl rfl rfl (Nat.le_of_ble_eq_true rfl) [1, 2, 3, 4, 5] rfl rfl ?_
      refine jj_if_ne hJ 50 dX6_isLoose_21 rfl (fun c4 => ?_) (fun c4 => ?_)
      · replace hF := iq c4 hF
        refine jj_iinc hJ dX6_isLoose_50 0 rfl (v := v2 + 1) (by rw [ic_1]) (Nat.le_of_ble_eq_true rfl) (lv' := [(2, .int (v2 + 1)), (0, .ref (RA 0)), (1, .int a1)]) rfl ?_
        refine jj_goto hJ 2 dX6_isLoose_53 rfl ?_
        exact ih (v2 + 1) hF
      · replace hF := ip c4 hF
        refine jj_aload_n hJ dX6_isLoose_24 1 rfl rfl ?_
        refine jj_get hJ lay_X6 dX6_isLoose_25 0 6 rfl rfl (Nat.le_of_ble_eq_true rfl) kw_308 rfl ?_
        refine jj_iload_n hJ dX6_isLoose_28 0 rfl rfl ?_
        refine jj_iload_n hJ dX6_isLoose_29 2 rfl rfl ?_
        obtain ⟨r6, h5, hF⟩ := ob hF
        refine jj_callN0 hJ (c_X1_leads l D cI cS cII (fun i => RA (i + 11)) L_G L_l v2 a1 h5) dX6_isLoose_30 kw_27 ⟨Nat.le_of_ble_eq_true rfl, Nat.le_of_ble_eq_true rfl, rfl, rfl⟩ kw_334 kw_28 kw_29 6 rfl rfl rfl rfl (Nat.le_of_ble_eq_true rfl) [6, 7, 8, 9, 10, 11, 12, 13, 14, 15, 16, 17] rfl rfl ?_
        refine jj_if_ne hJ 48 dX6_isLoose_33 rfl (fun c7 => ?_) (fun c7 => ?_)
        · replace hF := iq c7 hF
          refine jj_iconst hJ dX6_isLoose_48 ic_0 ?_
          cases Option.some.inj hF
          exact jj_zret hJ (Or.inl rfl) dX6_isLoose_49
        · replace hF := ip c7 hF
          refine jj_aload_n hJ dX6_isLoose_36 1 rfl rfl ?_
          refine jj_get hJ lay_X6 dX6_isLoose_37 0 6 rfl rfl (Nat.le_of_ble_eq_true rfl) kw_308 rfl ?_
          refine jj_iload_n hJ dX6_isLoose_40 2 rfl rfl ?_
          refine jj_iload_n hJ dX6_isLoose_41 0 rfl rfl ?_
          obtain ⟨r9, h8, hF⟩ := ob hF
          refine jj_callN0 hJ (c_X1_leads l D cI cS cII (fun i => RA (i + 11)) L_G L_l a1 v2 h8) dX6_isLoose_42 kw_27 ⟨Nat.le_of_ble_eq_true rfl, Nat.le_of_ble_eq_true rfl, rfl, rfl⟩ kw_334 kw_28 kw_29 6 rfl rfl rfl rfl (Nat.le_of_ble_eq_true rfl) [6, 7, 8, 9, 10, 11, 12, 13, 14, 15, 16, 17] rfl rfl ?_
          refine jj_if_eq hJ 50 dX6_isLoose_45 rfl (fun c10 => ?_) (fun c10 => ?_)
          · replace hF := ip c10 hF
            refine jj_iinc hJ dX6_isLoose_50 0 rfl (v := v2 + 1) (by rw [ic_1]) (Nat.le_of_ble_eq_true rfl) (lv' := [(2, .int (v2 + 1)), (0, .ref (RA 0)), (1, .int a1)]) rfl ?_
            refine jj_goto hJ 2 dX6_isLoose_53 rfl ?_
            exact ih (v2 + 1) hF
          · replace hF := iq c10 hF
            refine jj_iconst hJ dX6_isLoose_48 ic_0 ?_
            cases Option.some.inj hF
            exact jj_zret hJ (Or.inl rfl) dX6_isLoose_49
def p_X6_isLoose (N_k : Nat → Int32) (N_l : Int32) (L_G : Nat → Nat → Int32) (a1 : Int32) : Option (Int32) := q_X6_isLoose_2 N_k N_l L_G a1 FU 0
end
set_option maxRecDepth 100000 in
theorem c_X6_isLoose (l : Launch) (D : va_G) (cI cS cII : ClassId) (RA : Nat → Nat) (R_u : Int32) (R_q : Int32) (R_r : Int32) (N_k : Nat → Int32) (N_f : Nat → Int32) (N_t : Nat → Int32) (N_w : Nat → Int32) (N_l : Int32) (N_b : Int32) (L_G : Nat → Nat → Int32) (L_l : Int32) (a1 : Int32) {z_r : Int32} (hF : p_X6_isLoose N_k N_l L_G a1 = some z_r) : MJ l yX6_isLoose cX6_isLoose 3 (some .boolean) Rm_X6_isLoose D (tysU cI cS cII) [.ref (RA 0), .int a1] (W_X6_isLoose cI cS cII RA R_u R_q R_r N_k N_f N_t N_w N_l N_b L_G L_l) (some z_r) (W_X6_isLoose cI cS cII RA R_u R_q R_r N_k N_f N_t N_w N_l N_b L_G L_l) := by
  refine mj_of (own := RX6) (by decide) rfl (Nat.le_of_ble_eq_true rfl) (fun J hJ => ?_)
  show J (W_X6_isLoose cI cS cII RA R_u R_q R_r N_k N_f N_t N_w N_l N_b L_G L_l) 0 [(0, .ref (RA 0)), (1, .int a1)] []
  unfold p_X6_isLoose at hF
  refine jj_iconst hJ dX6_isLoose_0 ic_0 ?_
  refine jj_istore_n hJ dX6_isLoose_1 rfl (Nat.le_of_ble_eq_true rfl) (lv' := [(2, .int 0), (0, .ref (RA 0)), (1, .int a1)]) rfl ?_
  exact w_X6_isLoose_2 hJ  FU 0 hF
section
def W_X6_isPinned (cI cS cII : ClassId) (RA : Nat → Nat) (R_u : Int32) (R_q : Int32) (R_r : Int32) (N_k : Nat → Int32) (N_f : Nat → Int32) (N_t : Nat → Int32) (N_w : Nat → Int32) (N_l : Int32) (N_b : Int32) (L_G : Nat → Nat → Int32) (L_l : Int32) : va_W := ([((RA 0), .inr (6, [.ref (RA 1), .ref (RA 4), .ref (RA 9), .int R_u, .ref (RA 10), .int R_q, .ref (RA 11), .ref (RA 23), .ref (RA 24), .ref (RA 28), .ref (RA 31), .ref (RA 34), .int R_r])), ((RA 4), .inr (4, [.ref (RA 5), .ref (RA 6), .ref (RA 7), .ref (RA 8), .int N_l, .int N_b])), ((RA 5), .inl (cI, 10, .inl N_k)), ((RA 6), .inl (cI, 16, .inl N_f)), ((RA 7), .inl (cI, 16, .inl N_t)), ((RA 8), .inl (cI, 16, .inl N_w)), ((RA 11), .inr (1, [.ref (RA 12), .int L_l])), ((RA 12), .inl (cII, 10, .inr (.inr (.inr (.inr (fun i => some (RA (i + 13))))))))] ++ rw10 cI (fun i => RA (i + 13)) L_G)
abbrev Rm_X6_isPinned : Room := { frames := 2, cells := 0, slots := 0, locals := 44 }
variable {l : Launch} {D : va_G} {cI cS cII : ClassId} {RA : Nat → Nat} {A : Nat → Prop} {J : jT}
variable {z_r : Int32}
def q_X6_isPinned_2 (N_k : Nat → Int32) (N_l : Int32) (L_G : Nat → Nat → Int32) (a1 : Int32)  : Nat → Int32 → Option (Int32)
  | 0, _ => none
  | n + 1, v2 => if N_l ≤ v2 then (some 0) else ((p_X6_isRoot N_k L_G v2 a1).bind fun r3 => if r3 = 0 then (q_X6_isPinned_2 N_k N_l L_G a1 n (v2 + 1)) else ((p_X1_leads L_G a1 v2).bind fun r6 => if r6 = 0 then (q_X6_isPinned_2 N_k N_l L_G a1 n (v2 + 1)) else ((ix 10 v2).bind fun j8 => (rd (L_G j8) 10 a1).bind fun x10 => (ix 10 a1).bind fun j12 => (rd (L_G j12) 10 v2).bind fun x14 => if (x10 + x14) = 0 then (some 1) else (q_X6_isPinned_2 N_k N_l L_G a1 n (v2 + 1)))))
set_option maxRecDepth 100000 in
theorem w_X6_isPinned_2 {R_u : Int32} {R_q : Int32} {R_r : Int32} {N_k : Nat → Int32} {N_f : Nat → Int32} {N_t : Nat → Int32} {N_w : Nat → Int32} {N_l : Int32} {N_b : Int32} {L_G : Nat → Nat → Int32} {L_l : Int32} {a1 : Int32}  (hJ : jJ l cX6_isPinned 3 D (tysU cI cS cII) RX6 Rm_X6_isPinned (some .boolean) A (some z_r) (W_X6_isPinned cI cS cII RA R_u R_q R_r N_k N_f N_t N_w N_l N_b L_G L_l) J)  : ∀ (n : Nat) (v2 : Int32), q_X6_isPinned_2 N_k N_l L_G a1 n v2 = some z_r → J (W_X6_isPinned cI cS cII RA R_u R_q R_r N_k N_f N_t N_w N_l N_b L_G L_l) 2 [(2, .int v2), (0, .ref (RA 0)), (1, .int a1)] [] := by
  intro n
  induction n with
  | zero =>
    intro v2 hF
    exact no_some (show (none : Option (Int32)) = some z_r from hF)
  | succ n ih =>
    intro v2 hF
    rw [q_X6_isPinned_2.eq_2] at hF
    refine jj_iload_n hJ dX6_isPinned_2 0 rfl rfl ?_
    refine jj_aload_n hJ dX6_isPinned_3 1 rfl rfl ?_
    refine jj_get hJ lay_X6 dX6_isPinned_4 0 1 rfl rfl (Nat.le_of_ble_eq_true rfl) kw_306 rfl ?_
    refine jj_getN hJ lay_X4 dX6_isPinned_7 1 4 rfl rfl (Nat.le_of_ble_eq_true rfl) kw_307 rfl ?_
    refine jj_icmp_ge hJ 68 dX6_isPinned_10 rfl (fun c1 => ?_) (fun c1 => ?_)
    · replace hF := ip c1 hF
      refine jj_iconst hJ dX6_isPinned_68 ic_0 ?_
      cases Option.some.inj hF
      exact jj_zret hJ (Or.inl rfl) dX6_isPinned_69
    · replace hF := iq c1 hF
      refine jj_aload_n hJ dX6_isPinned_13 1 rfl rfl ?_
      refine jj_iload_n hJ dX6_isPinned_14 0 rfl rfl ?_
      refine jj_iload_n hJ dX6_isPinned_15 2 rfl rfl ?_
      obtain ⟨r3, h2, hF⟩ := ob hF
      refine jj_callV0 hJ (c_X6_isRoot l D cI cS cII RA R_u R_q R_r N_k N_f N_t N_w N_l N_b L_G L_l v2 a1 h2) dX6_isPinned_16 kw_383 ⟨Nat.le_of_ble_eq_true rfl, Nat.le_of_ble_eq_true rfl, rfl, rfl⟩ kw_382 kw_384 kw_385 0 rfl rfl rfl rfl (Nat.le_of_ble_eq_true rfl) [0, 1, 2, 3, 4, 5, 6, 7, 8, 9, 10, 11, 12, 13, 14, 15, 16, 17] rfl rfl ?_
      refine jj_if_eq hJ 62 dX6_isPinned_19 rfl (fun c4 => ?_) (fun c4 => ?_)
      · replace hF := ip c4 hF
        refine jj_iinc hJ dX6_isPinned_62 0 rfl (v := v2 + 1) (by rw [ic_1]) (Nat.le_of_ble_eq_true rfl) (lv' := [(2, .int (v2 + 1)), (0, .ref (RA 0)), (1, .int a1)]) rfl ?_
        refine jj_goto hJ 2 dX6_isPinned_65 rfl ?_
        exact ih (v2 + 1) hF
      · replace hF := iq c4 hF
        refine jj_aload_n hJ dX6_isPinned_22 1 rfl rfl ?_
        refine jj_get hJ lay_X6 dX6_isPinned_23 0 6 rfl rfl (Nat.le_of_ble_eq_true rfl) kw_308 rfl ?_
        refine jj_iload_n hJ dX6_isPinned_26 2 rfl rfl ?_
        refine jj_iload_n hJ dX6_isPinned_27 0 rfl rfl ?_
        obtain ⟨r6, h5, hF⟩ := ob hF
        refine jj_callN0 hJ (c_X1_leads l D cI cS cII (fun i => RA (i + 11)) L_G L_l a1 v2 h5) dX6_isPinned_28 kw_27 ⟨Nat.le_of_ble_eq_true rfl, Nat.le_of_ble_eq_true rfl, rfl, rfl⟩ kw_334 kw_28 kw_29 6 rfl rfl rfl rfl (Nat.le_of_ble_eq_true rfl) [6, 7, 8, 9, 10, 11, 12, 13, 14, 15, 16, 17] rfl rfl ?_
        refine jj_if_eq hJ 62 dX6_isPinned_31 rfl (fun c7 => ?_) (fun c7 => ?_)
        · replace hF := ip c7 hF
          refine jj_iinc hJ dX6_isPinned_62 0 rfl (v := v2 + 1) (by rw [ic_1]) (Nat.le_of_ble_eq_true rfl) (lv' := [(2, .int (v2 + 1)), (0, .ref (RA 0)), (1, .int a1)]) rfl ?_
          refine jj_goto hJ 2 dX6_isPinned_65 rfl ?_
          exact ih (v2 + 1) hF
        · replace hF := iq c7 hF
          refine jj_aload_n hJ dX6_isPinned_34 1 rfl rfl ?_
          refine jj_get hJ lay_X6 dX6_isPinned_35 0 6 rfl rfl (Nat.le_of_ble_eq_true rfl) kw_308 rfl ?_
          refine jj_getN hJ lay_X1 dX6_isPinned_38 6 0 rfl rfl (Nat.le_of_ble_eq_true rfl) kw_310 rfl ?_
          refine jj_iload_n hJ dX6_isPinned_41 0 rfl rfl ?_
          obtain ⟨j8, h9, hF⟩ := ob hF
          refine jj_aald hJ dX6_isPinned_42 7 2 rfl rfl rfl (ix_some h9).1 (congrArg (fun i => some (RA (i + 13))) (ix_some h9).2.1) ?_
          refine jj_iload_n hJ dX6_isPinned_43 2 rfl rfl ?_
          obtain ⟨x10, h11, hF⟩ := ob hF
          refine jj_iald hJ dX6_isPinned_44 (8 + j8) 0 (rw10_get _ (ix_some h9).2.2) rfl h11 ?_
          refine jj_aload_n hJ dX6_isPinned_45 1 rfl rfl ?_
          refine jj_get hJ lay_X6 dX6_isPinned_46 0 6 rfl rfl (Nat.le_of_ble_eq_true rfl) kw_308 rfl ?_
          refine jj_getN hJ lay_X1 dX6_isPinned_49 6 0 rfl rfl (Nat.le_of_ble_eq_true rfl) kw_310 rfl ?_
          refine jj_iload_n hJ dX6_isPinned_52 2 rfl rfl ?_
          obtain ⟨j12, h13, hF⟩ := ob hF
          refine jj_aald hJ dX6_isPinned_53 7 2 rfl rfl rfl (ix_some h13).1 (congrArg (fun i => some (RA (i + 13))) (ix_some h13).2.1) ?_
          refine jj_iload_n hJ dX6_isPinned_54 0 rfl rfl ?_
          obtain ⟨x14, h15, hF⟩ := ob hF
          refine jj_iald hJ dX6_isPinned_55 (8 + j12) 0 (rw10_get _ (ix_some h13).2.2) rfl h15 ?_
          refine jj_iadd hJ dX6_isPinned_56 ?_
          refine jj_if_ne hJ 62 dX6_isPinned_57 rfl (fun c16 => ?_) (fun c16 => ?_)
          · replace hF := iq c16 hF
            refine jj_iinc hJ dX6_isPinned_62 0 rfl (v := v2 + 1) (by rw [ic_1]) (Nat.le_of_ble_eq_true rfl) (lv' := [(2, .int (v2 + 1)), (0, .ref (RA 0)), (1, .int a1)]) rfl ?_
            refine jj_goto hJ 2 dX6_isPinned_65 rfl ?_
            exact ih (v2 + 1) hF
          · replace hF := ip c16 hF
            refine jj_iconst hJ dX6_isPinned_60 ic_1 ?_
            cases Option.some.inj hF
            exact jj_zret hJ (Or.inr rfl) dX6_isPinned_61
def p_X6_isPinned (N_k : Nat → Int32) (N_l : Int32) (L_G : Nat → Nat → Int32) (a1 : Int32) : Option (Int32) := q_X6_isPinned_2 N_k N_l L_G a1 FU 0
end
set_option maxRecDepth 100000 in
theorem c_X6_isPinned (l : Launch) (D : va_G) (cI cS cII : ClassId) (RA : Nat → Nat) (R_u : Int32) (R_q : Int32) (R_r : Int32) (N_k : Nat → Int32) (N_f : Nat → Int32) (N_t : Nat → Int32) (N_w : Nat → Int32) (N_l : Int32) (N_b : Int32) (L_G : Nat → Nat → Int32) (L_l : Int32) (a1 : Int32) {z_r : Int32} (hF : p_X6_isPinned N_k N_l L_G a1 = some z_r) : MJ l yX6_isPinned cX6_isPinned 3 (some .boolean) Rm_X6_isPinned D (tysU cI cS cII) [.ref (RA 0), .int a1] (W_X6_isPinned cI cS cII RA R_u R_q R_r N_k N_f N_t N_w N_l N_b L_G L_l) (some z_r) (W_X6_isPinned cI cS cII RA R_u R_q R_r N_k N_f N_t N_w N_l N_b L_G L_l) := by
  refine mj_of (own := RX6) (by decide) rfl (Nat.le_of_ble_eq_true rfl) (fun J hJ => ?_)
  show J (W_X6_isPinned cI cS cII RA R_u R_q R_r N_k N_f N_t N_w N_l N_b L_G L_l) 0 [(0, .ref (RA 0)), (1, .int a1)] []
  unfold p_X6_isPinned at hF
  refine jj_iconst hJ dX6_isPinned_0 ic_0 ?_
  refine jj_istore_n hJ dX6_isPinned_1 rfl (Nat.le_of_ble_eq_true rfl) (lv' := [(2, .int 0), (0, .ref (RA 0)), (1, .int a1)]) rfl ?_
  exact w_X6_isPinned_2 hJ  FU 0 hF
section
def W_X6_loose (cI cS cII : ClassId) (RA : Nat → Nat) (R_u : Int32) (R_q : Int32) (R_r : Int32) (N_k : Nat → Int32) (N_f : Nat → Int32) (N_t : Nat → Int32) (N_w : Nat → Int32) (N_l : Int32) (N_b : Int32) (L_G : Nat → Nat → Int32) (L_l : Int32) : va_W := ([((RA 0), .inr (6, [.ref (RA 1), .ref (RA 4), .ref (RA 9), .int R_u, .ref (RA 10), .int R_q, .ref (RA 11), .ref (RA 23), .ref (RA 24), .ref (RA 28), .ref (RA 31), .ref (RA 34), .int R_r])), ((RA 4), .inr (4, [.ref (RA 5), .ref (RA 6), .ref (RA 7), .ref (RA 8), .int N_l, .int N_b])), ((RA 5), .inl (cI, 10, .inl N_k)), ((RA 6), .inl (cI, 16, .inl N_f)), ((RA 7), .inl (cI, 16, .inl N_t)), ((RA 8), .inl (cI, 16, .inl N_w)), ((RA 11), .inr (1, [.ref (RA 12), .int L_l])), ((RA 12), .inl (cII, 10, .inr (.inr (.inr (.inr (fun i => some (RA (i + 13))))))))] ++ rw10 cI (fun i => RA (i + 13)) L_G)
abbrev Rm_X6_loose : Room := { frames := 3, cells := 0, slots := 0, locals := 66 }
variable {l : Launch} {D : va_G} {cI cS cII : ClassId} {RA : Nat → Nat} {A : Nat → Prop} {J : jT}
variable {z_r : Int32}
def p_X6_loose (N_k : Nat → Int32) (N_l : Int32) (L_G : Nat → Nat → Int32) (a1 : Int32) (a2 : Int32) : Option (Int32) := (p_X6_isLevel N_l a1).bind fun r2 => if r2 = 0 then (some ((-1))) else (if a2 < 0 then (some ((-1))) else (if a2 ≤ 1 then ((p_X4_isFloating N_k a1).bind fun r7 => if r7 = 0 then (some ((-2))) else (if a2 = 0 then ((p_X6_isLoose N_k N_l L_G a1).bind fun r14 => if r14 = 0 then (some 0) else (some 1)) else ((p_X6_isPinned N_k N_l L_G a1).bind fun r11 => if r11 = 0 then (some 0) else (some 1)))) else (some ((-1)))))
end
set_option maxRecDepth 100000 in
theorem c_X6_loose (l : Launch) (D : va_G) (cI cS cII : ClassId) (RA : Nat → Nat) (R_u : Int32) (R_q : Int32) (R_r : Int32) (N_k : Nat → Int32) (N_f : Nat → Int32) (N_t : Nat → Int32) (N_w : Nat → Int32) (N_l : Int32) (N_b : Int32) (L_G : Nat → Nat → Int32) (L_l : Int32) (a1 : Int32) (a2 : Int32) {z_r : Int32} (hF : p_X6_loose N_k N_l L_G a1 a2 = some z_r) : MJ l yX6_loose cX6_loose 4 (some .int) Rm_X6_loose D (tysU cI cS cII) [.ref (RA 0), .int a1, .int a2] (W_X6_loose cI cS cII RA R_u R_q R_r N_k N_f N_t N_w N_l N_b L_G L_l) (some z_r) (W_X6_loose cI cS cII RA R_u R_q R_r N_k N_f N_t N_w N_l N_b L_G L_l) := by
  refine mj_of (own := RX6) (by decide) rfl (Nat.le_of_ble_eq_true rfl) (fun J hJ => ?_)
  show J (W_X6_loose cI cS cII RA R_u R_q R_r N_k N_f N_t N_w N_l N_b L_G L_l) 0 [(0, .ref (RA 0)), (1, .int a1), (2, .int a2)] []
  unfold p_X6_loose at hF
  refine jj_aload_n hJ dX6_loose_0 0 rfl rfl ?_
  refine jj_iload_n hJ dX6_loose_1 1 rfl rfl ?_
  obtain ⟨r2, h1, hF⟩ := ob hF
  refine jj_callV0 hJ (c_X6_isLevel l D cI cS cII RA R_u R_q R_r N_k N_f N_t N_w N_l N_b a1 h1) dX6_loose_2 kw_312 ⟨Nat.le_of_ble_eq_true rfl, Nat.le_of_ble_eq_true rfl, rfl, rfl⟩ kw_311 kw_313 kw_314 0 rfl rfl rfl rfl (Nat.le_of_ble_eq_true rfl) [0, 1, 2, 3, 4, 5] rfl rfl ?_
  refine jj_if_eq hJ 17 dX6_loose_5 rfl (fun c3 => ?_) (fun c3 => ?_)
  · replace hF := ip c3 hF
    refine jj_iconst hJ dX6_loose_17 ic_m1 ?_
    cases Option.some.inj hF
    exact jj_iret hJ dX6_loose_18
  · replace hF := iq c3 hF
    refine jj_iload_n hJ dX6_loose_8 2 rfl rfl ?_
    refine jj_if_lt hJ 17 dX6_loose_9 rfl (fun c4 => ?_) (fun c4 => ?_)
    · replace hF := ip c4 hF
      refine jj_iconst hJ dX6_loose_17 ic_m1 ?_
      cases Option.some.inj hF
      exact jj_iret hJ dX6_loose_18
    · replace hF := iq c4 hF
      refine jj_iload_n hJ dX6_loose_12 2 rfl rfl ?_
      refine jj_iconst hJ dX6_loose_13 ic_1 ?_
      refine jj_icmp_le hJ 19 dX6_loose_14 rfl (fun c5 => ?_) (fun c5 => ?_)
      · replace hF := ip c5 hF
        refine jj_aload_n hJ dX6_loose_19 0 rfl rfl ?_
        refine jj_get hJ lay_X6 dX6_loose_20 0 1 rfl rfl (Nat.le_of_ble_eq_true rfl) kw_306 rfl ?_
        refine jj_iload_n hJ dX6_loose_23 1 rfl rfl ?_
        obtain ⟨r7, h6, hF⟩ := ob hF
        refine jj_callN0 hJ (c_X4_isFloating l D cI cS cII (fun i => RA (i + 4)) N_k N_f N_t N_w N_l N_b a1 h6) dX6_loose_24 kw_325 ⟨Nat.le_of_ble_eq_true rfl, Nat.le_of_ble_eq_true rfl, rfl, rfl⟩ kw_324 kw_326 kw_327 1 rfl rfl rfl rfl (Nat.le_of_ble_eq_true rfl) [1, 2, 3, 4, 5] rfl rfl ?_
        refine jj_if_ne hJ 33 dX6_loose_27 rfl (fun c8 => ?_) (fun c8 => ?_)
        · replace hF := iq c8 hF
          refine jj_iload_n hJ dX6_loose_33 2 rfl rfl ?_
          refine jj_if_ne hJ 45 dX6_loose_34 rfl (fun c9 => ?_) (fun c9 => ?_)
          · replace hF := iq c9 hF
            refine jj_aload_n hJ dX6_loose_45 0 rfl rfl ?_
            refine jj_iload_n hJ dX6_loose_46 1 rfl rfl ?_
            obtain ⟨r11, h10, hF⟩ := ob hF
            refine jj_callV0 hJ (c_X6_isPinned l D cI cS cII RA R_u R_q R_r N_k N_f N_t N_w N_l N_b L_G L_l a1 h10) dX6_loose_47 kw_391 ⟨Nat.le_of_ble_eq_true rfl, Nat.le_of_ble_eq_true rfl, rfl, rfl⟩ kw_390 kw_392 kw_393 0 rfl rfl rfl rfl (Nat.le_of_ble_eq_true rfl) [0, 1, 2, 3, 4, 5, 6, 7, 8, 9, 10, 11, 12, 13, 14, 15, 16, 17] rfl rfl ?_
            refine jj_istore_n hJ dX6_loose_50 rfl (Nat.le_of_ble_eq_true rfl) (lv' := [(3, .int r11), (0, .ref (RA 0)), (1, .int a1), (2, .int a2)]) rfl ?_
            refine jj_iload_n hJ dX6_loose_51 0 rfl rfl ?_
            refine jj_if_eq hJ 59 dX6_loose_52 rfl (fun c12 => ?_) (fun c12 => ?_)
            · replace hF := ip c12 hF
              refine jj_iconst hJ dX6_loose_59 ic_0 ?_
              cases Option.some.inj hF
              exact jj_iret hJ dX6_loose_60
            · replace hF := iq c12 hF
              refine jj_iconst hJ dX6_loose_55 ic_1 ?_
              refine jj_goto hJ 60 dX6_loose_56 rfl ?_
              cases Option.some.inj hF
              exact jj_iret hJ dX6_loose_60
          · replace hF := ip c9 hF
            refine jj_aload_n hJ dX6_loose_37 0 rfl rfl ?_
            refine jj_iload_n hJ dX6_loose_38 1 rfl rfl ?_
            obtain ⟨r14, h13, hF⟩ := ob hF
            refine jj_callV0 hJ (c_X6_isLoose l D cI cS cII RA R_u R_q R_r N_k N_f N_t N_w N_l N_b L_G L_l a1 h13) dX6_loose_39 kw_395 ⟨Nat.le_of_ble_eq_true rfl, Nat.le_of_ble_eq_true rfl, rfl, rfl⟩ kw_394 kw_396 kw_397 0 rfl rfl rfl rfl (Nat.le_of_ble_eq_true rfl) [0, 1, 2, 3, 4, 5, 6, 7, 8, 9, 10, 11, 12, 13, 14, 15, 16, 17] rfl rfl ?_
            refine jj_goto hJ 50 dX6_loose_42 rfl ?_
            refine jj_istore_n hJ dX6_loose_50 rfl (Nat.le_of_ble_eq_true rfl) (lv' := [(3, .int r14), (0, .ref (RA 0)), (1, .int a1), (2, .int a2)]) rfl ?_
            refine jj_iload_n hJ dX6_loose_51 0 rfl rfl ?_
            refine jj_if_eq hJ 59 dX6_loose_52 rfl (fun c15 => ?_) (fun c15 => ?_)
            · replace hF := ip c15 hF
              refine jj_iconst hJ dX6_loose_59 ic_0 ?_
              cases Option.some.inj hF
              exact jj_iret hJ dX6_loose_60
            · replace hF := iq c15 hF
              refine jj_iconst hJ dX6_loose_55 ic_1 ?_
              refine jj_goto hJ 60 dX6_loose_56 rfl ?_
              cases Option.some.inj hF
              exact jj_iret hJ dX6_loose_60
        · replace hF := ip c8 hF
          refine jj_bipush hJ dX6_loose_30 bp_m2 ?_
          cases Option.some.inj hF
          exact jj_iret hJ dX6_loose_32
      · replace hF := iq c5 hF
        refine jj_iconst hJ dX6_loose_17 ic_m1 ?_
        cases Option.some.inj hF
        exact jj_iret hJ dX6_loose_18
section
def W_X6_floatingOnes (cI cS cII : ClassId) (RA : Nat → Nat) (R_u : Int32) (R_q : Int32) (R_r : Int32) (N_k : Nat → Int32) (N_f : Nat → Int32) (N_t : Nat → Int32) (N_w : Nat → Int32) (N_l : Int32) (N_b : Int32) : va_W := [((RA 0), .inr (6, [.ref (RA 1), .ref (RA 4), .ref (RA 9), .int R_u, .ref (RA 10), .int R_q, .ref (RA 11), .ref (RA 23), .ref (RA 24), .ref (RA 28), .ref (RA 31), .ref (RA 34), .int R_r])), ((RA 4), .inr (4, [.ref (RA 5), .ref (RA 6), .ref (RA 7), .ref (RA 8), .int N_l, .int N_b])), ((RA 5), .inl (cI, 10, .inl N_k)), ((RA 6), .inl (cI, 16, .inl N_f)), ((RA 7), .inl (cI, 16, .inl N_t)), ((RA 8), .inl (cI, 16, .inl N_w))]
abbrev Rm_X6_floatingOnes : Room := { frames := 1, cells := 0, slots := 0, locals := 21 }
variable {l : Launch} {D : va_G} {cI cS cII : ClassId} {RA : Nat → Nat} {A : Nat → Prop} {J : jT}
variable {z_r : Int32}
def q_X6_floatingOnes_4 (N_k : Nat → Int32) (N_l : Int32)  : Nat → Int32 → Int32 → Option (Int32)
  | 0, _, _ => none
  | n + 1, v2, v1 => if N_l ≤ v2 then (some v1) else ((p_X4_isFloating N_k v2).bind fun r3 => if r3 = 0 then (q_X6_floatingOnes_4 N_k N_l n (v2 + 1) v1) else (q_X6_floatingOnes_4 N_k N_l n (v2 + 1) (v1 + 1)))
set_option maxRecDepth 100000 in
theorem w_X6_floatingOnes_4 {R_u : Int32} {R_q : Int32} {R_r : Int32} {N_k : Nat → Int32} {N_f : Nat → Int32} {N_t : Nat → Int32} {N_w : Nat → Int32} {N_l : Int32} {N_b : Int32}   (hJ : jJ l cX6_floatingOnes 3 D (tysU cI cS cII) RX6 Rm_X6_floatingOnes (some .int) A (some z_r) (W_X6_floatingOnes cI cS cII RA R_u R_q R_r N_k N_f N_t N_w N_l N_b) J)  : ∀ (n : Nat) (v2 : Int32) (v1 : Int32), q_X6_floatingOnes_4 N_k N_l n v2 v1 = some z_r → J (W_X6_floatingOnes cI cS cII RA R_u R_q R_r N_k N_f N_t N_w N_l N_b) 4 [(2, .int v2), (1, .int v1), (0, .ref (RA 0))] [] := by
  intro n
  induction n with
  | zero =>
    intro v2 v1 hF
    exact no_some (show (none : Option (Int32)) = some z_r from hF)
  | succ n ih =>
    intro v2 v1 hF
    rw [q_X6_floatingOnes_4.eq_2] at hF
    refine jj_iload_n hJ dX6_floatingOnes_4 0 rfl rfl ?_
    refine jj_aload_n hJ dX6_floatingOnes_5 2 rfl rfl ?_
    refine jj_get hJ lay_X6 dX6_floatingOnes_6 0 1 rfl rfl (Nat.le_of_ble_eq_true rfl) kw_306 rfl ?_
    refine jj_getN hJ lay_X4 dX6_floatingOnes_9 1 4 rfl rfl (Nat.le_of_ble_eq_true rfl) kw_307 rfl ?_
    refine jj_icmp_ge hJ 35 dX6_floatingOnes_12 rfl (fun c1 => ?_) (fun c1 => ?_)
    · replace hF := ip c1 hF
      refine jj_iload_n hJ dX6_floatingOnes_35 1 rfl rfl ?_
      cases Option.some.inj hF
      exact jj_iret hJ dX6_floatingOnes_36
    · replace hF := iq c1 hF
      refine jj_aload_n hJ dX6_floatingOnes_15 2 rfl rfl ?_
      refine jj_get hJ lay_X6 dX6_floatingOnes_16 0 1 rfl rfl (Nat.le_of_ble_eq_true rfl) kw_306 rfl ?_
      refine jj_iload_n hJ dX6_floatingOnes_19 0 rfl rfl ?_
      obtain ⟨r3, h2, hF⟩ := ob hF
      refine jj_callN0 hJ (c_X4_isFloating l D cI cS cII (fun i => RA (i + 4)) N_k N_f N_t N_w N_l N_b v2 h2) dX6_floatingOnes_20 kw_325 ⟨Nat.le_of_ble_eq_true rfl, Nat.le_of_ble_eq_true rfl, rfl, rfl⟩ kw_324 kw_326 kw_327 1 rfl rfl rfl rfl (Nat.le_of_ble_eq_true rfl) [1, 2, 3, 4, 5] rfl rfl ?_
      refine jj_if_eq hJ 29 dX6_floatingOnes_23 rfl (fun c4 => ?_) (fun c4 => ?_)
      · replace hF := ip c4 hF
        refine jj_iinc hJ dX6_floatingOnes_29 0 rfl (v := v2 + 1) (by rw [ic_1]) (Nat.le_of_ble_eq_true rfl) (lv' := [(2, .int (v2 + 1)), (1, .int v1), (0, .ref (RA 0))]) rfl ?_
        refine jj_goto hJ 4 dX6_floatingOnes_32 rfl ?_
        exact ih (v2 + 1) v1 hF
      · replace hF := iq c4 hF
        refine jj_iinc hJ dX6_floatingOnes_26 1 rfl (v := v1 + 1) (by rw [ic_1]) (Nat.le_of_ble_eq_true rfl) (lv' := [(1, .int (v1 + 1)), (2, .int v2), (0, .ref (RA 0))]) rfl ?_
        refine jj_iinc hJ dX6_floatingOnes_29 1 rfl (v := v2 + 1) (by rw [ic_1]) (Nat.le_of_ble_eq_true rfl) (lv' := [(2, .int (v2 + 1)), (1, .int (v1 + 1)), (0, .ref (RA 0))]) rfl ?_
        refine jj_goto hJ 4 dX6_floatingOnes_32 rfl ?_
        exact ih (v2 + 1) (v1 + 1) hF
def p_X6_floatingOnes (N_k : Nat → Int32) (N_l : Int32) : Option (Int32) := q_X6_floatingOnes_4 N_k N_l FU 0 0
end
set_option maxRecDepth 100000 in
theorem c_X6_floatingOnes (l : Launch) (D : va_G) (cI cS cII : ClassId) (RA : Nat → Nat) (R_u : Int32) (R_q : Int32) (R_r : Int32) (N_k : Nat → Int32) (N_f : Nat → Int32) (N_t : Nat → Int32) (N_w : Nat → Int32) (N_l : Int32) (N_b : Int32)  {z_r : Int32} (hF : p_X6_floatingOnes N_k N_l = some z_r) : MJ l yX6_floatingOnes cX6_floatingOnes 3 (some .int) Rm_X6_floatingOnes D (tysU cI cS cII) [.ref (RA 0)] (W_X6_floatingOnes cI cS cII RA R_u R_q R_r N_k N_f N_t N_w N_l N_b) (some z_r) (W_X6_floatingOnes cI cS cII RA R_u R_q R_r N_k N_f N_t N_w N_l N_b) := by
  refine mj_of (own := RX6) (by decide) rfl (Nat.le_of_ble_eq_true rfl) (fun J hJ => ?_)
  show J (W_X6_floatingOnes cI cS cII RA R_u R_q R_r N_k N_f N_t N_w N_l N_b) 0 [(0, .ref (RA 0))] []
  unfold p_X6_floatingOnes at hF
  refine jj_iconst hJ dX6_floatingOnes_0 ic_0 ?_
  refine jj_istore_n hJ dX6_floatingOnes_1 rfl (Nat.le_of_ble_eq_true rfl) (lv' := [(1, .int 0), (0, .ref (RA 0))]) rfl ?_
  refine jj_iconst hJ dX6_floatingOnes_2 ic_0 ?_
  refine jj_istore_n hJ dX6_floatingOnes_3 rfl (Nat.le_of_ble_eq_true rfl) (lv' := [(2, .int 0), (1, .int 0), (0, .ref (RA 0))]) rfl ?_
  exact w_X6_floatingOnes_4 hJ  FU 0 0 hF
section
def W_X6_count (cI cS cII : ClassId) (RA : Nat → Nat) (R_u : Int32) (R_q : Int32) (R_r : Int32) (X_c : Nat → Int32) (X_d : Nat → Int32) (X_n : Int32) (N_k : Nat → Int32) (N_f : Nat → Int32) (N_t : Nat → Int32) (N_w : Nat → Int32) (N_l : Int32) (N_b : Int32) (M_v : Nat → Int32) (M_m : Nat → Int32) (M_s : Int32) (L_G : Nat → Nat → Int32) (L_l : Int32) : va_W := ([((RA 0), .inr (6, [.ref (RA 1), .ref (RA 4), .ref (RA 9), .int R_u, .ref (RA 10), .int R_q, .ref (RA 11), .ref (RA 23), .ref (RA 24), .ref (RA 28), .ref (RA 31), .ref (RA 34), .int R_r])), ((RA 1), .inr (5, [.ref (RA 2), .ref (RA 3), .int X_n])), ((RA 2), .inl (cI, 200, .inl X_c)), ((RA 3), .inl (cI, 3, .inl X_d)), ((RA 4), .inr (4, [.ref (RA 5), .ref (RA 6), .ref (RA 7), .ref (RA 8), .int N_l, .int N_b])), ((RA 5), .inl (cI, 10, .inl N_k)), ((RA 6), .inl (cI, 16, .inl N_f)), ((RA 7), .inl (cI, 16, .inl N_t)), ((RA 8), .inl (cI, 16, .inl N_w)), ((RA 28), .inr (3, [.ref (RA 29), .ref (RA 30), .int M_s])), ((RA 29), .inl (cI, 10, .inl M_v)), ((RA 30), .inl (cI, 10, .inl M_m)), ((RA 11), .inr (1, [.ref (RA 12), .int L_l])), ((RA 12), .inl (cII, 10, .inr (.inr (.inr (.inr (fun i => some (RA (i + 13))))))))] ++ rw10 cI (fun i => RA (i + 13)) L_G)
abbrev Rm_X6_count : Room := { frames := 3, cells := 0, slots := 0, locals := 66 }
variable {l : Launch} {D : va_G} {cI cS cII : ClassId} {RA : Nat → Nat} {A : Nat → Prop} {J : jT}
variable {z_r : Int32}
def p_X6_count (R_u : Int32) (R_q : Int32) (R_r : Int32) (X_n : Int32) (N_k : Nat → Int32) (N_l : Int32) (N_b : Int32) (M_s : Int32) (L_G : Nat → Nat → Int32) (L_l : Int32) (a1 : Int32) : Option (Int32) := if a1 = 0 then (some N_l) else if a1 = 1 then (some N_b) else if a1 = 2 then (some R_r) else if a1 = 3 then ((p_X1_greatestValue L_G L_l).bind fun r6 => some r6) else if a1 = 4 then ((p_X6_floatingOnes N_k N_l).bind fun r9 => some r9) else if a1 = 5 then (some M_s) else if a1 = 6 then (some R_u) else if a1 = 7 then (some R_q) else if a1 = 8 then (some X_n) else if a1 = 9 then ((p_X1_pairs L_G L_l).bind fun r16 => some r16) else (some ((-1)))
end
set_option maxRecDepth 100000 in
theorem c_X6_count (l : Launch) (D : va_G) (cI cS cII : ClassId) (RA : Nat → Nat) (R_u : Int32) (R_q : Int32) (R_r : Int32) (X_c : Nat → Int32) (X_d : Nat → Int32) (X_n : Int32) (N_k : Nat → Int32) (N_f : Nat → Int32) (N_t : Nat → Int32) (N_w : Nat → Int32) (N_l : Int32) (N_b : Int32) (M_v : Nat → Int32) (M_m : Nat → Int32) (M_s : Int32) (L_G : Nat → Nat → Int32) (L_l : Int32) (a1 : Int32) {z_r : Int32} (hF : p_X6_count R_u R_q R_r X_n N_k N_l N_b M_s L_G L_l a1 = some z_r) : MJ l yX6_count cX6_count 2 (some .int) Rm_X6_count D (tysU cI cS cII) [.ref (RA 0), .int a1] (W_X6_count cI cS cII RA R_u R_q R_r X_c X_d X_n N_k N_f N_t N_w N_l N_b M_v M_m M_s L_G L_l) (some z_r) (W_X6_count cI cS cII RA R_u R_q R_r X_c X_d X_n N_k N_f N_t N_w N_l N_b M_v M_m M_s L_G L_l) := by
  refine mj_of (own := RX6) (by decide) rfl (Nat.le_of_ble_eq_true rfl) (fun J hJ => ?_)
  show J (W_X6_count cI cS cII RA R_u R_q R_r X_c X_d X_n N_k N_f N_t N_w N_l N_b M_v M_m M_s L_G L_l) 0 [(0, .ref (RA 0)), (1, .int a1)] []
  unfold p_X6_count at hF
  refine jj_iload_n hJ dX6_count_0 1 rfl rfl ?_
  by_cases c1 : a1 = 0
  · replace hF := ip c1 hF
    refine jj_tin hJ 56 dX6_count_1 (by rw [c1] <;> decide) (by rw [c1] <;> decide) (by rw [c1] <;> rfl) rfl ?_
    refine jj_aload_n hJ dX6_count_56 0 rfl rfl ?_
    refine jj_get hJ lay_X6 dX6_count_57 0 1 rfl rfl (Nat.le_of_ble_eq_true rfl) kw_306 rfl ?_
    refine jj_getN hJ lay_X4 dX6_count_60 4 4 rfl rfl (Nat.le_of_ble_eq_true rfl) kw_307 rfl ?_
    cases Option.some.inj hF
    exact jj_iret hJ dX6_count_63
  replace hF := iq c1 hF
  by_cases c2 : a1 = 1
  · replace hF := ip c2 hF
    refine jj_tin hJ 64 dX6_count_1 (by rw [c2] <;> decide) (by rw [c2] <;> decide) (by rw [c2] <;> rfl) rfl ?_
    refine jj_aload_n hJ dX6_count_64 0 rfl rfl ?_
    refine jj_get hJ lay_X6 dX6_count_65 0 1 rfl rfl (Nat.le_of_ble_eq_true rfl) kw_306 rfl ?_
    refine jj_getN hJ lay_X4 dX6_count_68 4 5 rfl rfl (Nat.le_of_ble_eq_true rfl) kw_328 rfl ?_
    cases Option.some.inj hF
    exact jj_iret hJ dX6_count_71
  replace hF := iq c2 hF
  by_cases c3 : a1 = 2
  · replace hF := ip c3 hF
    refine jj_tin hJ 72 dX6_count_1 (by rw [c3] <;> decide) (by rw [c3] <;> decide) (by rw [c3] <;> rfl) rfl ?_
    refine jj_aload_n hJ dX6_count_72 0 rfl rfl ?_
    refine jj_get hJ lay_X6 dX6_count_73 0 12 rfl rfl (Nat.le_of_ble_eq_true rfl) kw_398 rfl ?_
    cases Option.some.inj hF
    exact jj_iret hJ dX6_count_76
  replace hF := iq c3 hF
  by_cases c4 : a1 = 3
  · replace hF := ip c4 hF
    refine jj_tin hJ 77 dX6_count_1 (by rw [c4] <;> decide) (by rw [c4] <;> decide) (by rw [c4] <;> rfl) rfl ?_
    refine jj_aload_n hJ dX6_count_77 0 rfl rfl ?_
    refine jj_get hJ lay_X6 dX6_count_78 0 6 rfl rfl (Nat.le_of_ble_eq_true rfl) kw_308 rfl ?_
    obtain ⟨r6, h5, hF⟩ := ob hF
    refine jj_callN0 hJ (c_X1_greatestValue l D cI cS cII (fun i => RA (i + 11)) L_G L_l  h5) dX6_count_81 kw_400 ⟨Nat.le_of_ble_eq_true rfl, Nat.le_of_ble_eq_true rfl, rfl, rfl⟩ kw_399 kw_401 kw_402 12 rfl rfl rfl rfl (Nat.le_of_ble_eq_true rfl) [12, 13, 14, 15, 16, 17, 18, 19, 20, 21, 22, 23] rfl rfl ?_
    cases Option.some.inj hF
    exact jj_iret hJ dX6_count_84
  replace hF := iq c4 hF
  by_cases c7 : a1 = 4
  · replace hF := ip c7 hF
    refine jj_tin hJ 85 dX6_count_1 (by rw [c7] <;> decide) (by rw [c7] <;> decide) (by rw [c7] <;> rfl) rfl ?_
    refine jj_aload_n hJ dX6_count_85 0 rfl rfl ?_
    obtain ⟨r9, h8, hF⟩ := ob hF
    refine jj_callV0 hJ (c_X6_floatingOnes l D cI cS cII RA R_u R_q R_r N_k N_f N_t N_w N_l N_b  h8) dX6_count_86 kw_404 ⟨Nat.le_of_ble_eq_true rfl, Nat.le_of_ble_eq_true rfl, rfl, rfl⟩ kw_403 kw_405 kw_406 0 rfl rfl rfl rfl (Nat.le_of_ble_eq_true rfl) [0, 4, 5, 6, 7, 8] rfl rfl ?_
    cases Option.some.inj hF
    exact jj_iret hJ dX6_count_89
  replace hF := iq c7 hF
  by_cases c10 : a1 = 5
  · replace hF := ip c10 hF
    refine jj_tin hJ 90 dX6_count_1 (by rw [c10] <;> decide) (by rw [c10] <;> decide) (by rw [c10] <;> rfl) rfl ?_
    refine jj_aload_n hJ dX6_count_90 0 rfl rfl ?_
    refine jj_get hJ lay_X6 dX6_count_91 0 9 rfl rfl (Nat.le_of_ble_eq_true rfl) kw_369 rfl ?_
    refine jj_getN hJ lay_X3 dX6_count_94 9 2 rfl rfl (Nat.le_of_ble_eq_true rfl) kw_370 rfl ?_
    cases Option.some.inj hF
    exact jj_iret hJ dX6_count_97
  replace hF := iq c10 hF
  by_cases c11 : a1 = 6
  · replace hF := ip c11 hF
    refine jj_tin hJ 98 dX6_count_1 (by rw [c11] <;> decide) (by rw [c11] <;> decide) (by rw [c11] <;> rfl) rfl ?_
    refine jj_aload_n hJ dX6_count_98 0 rfl rfl ?_
    refine jj_get hJ lay_X6 dX6_count_99 0 3 rfl rfl (Nat.le_of_ble_eq_true rfl) kw_407 rfl ?_
    cases Option.some.inj hF
    exact jj_iret hJ dX6_count_102
  replace hF := iq c11 hF
  by_cases c12 : a1 = 7
  · replace hF := ip c12 hF
    refine jj_tin hJ 103 dX6_count_1 (by rw [c12] <;> decide) (by rw [c12] <;> decide) (by rw [c12] <;> rfl) rfl ?_
    refine jj_aload_n hJ dX6_count_103 0 rfl rfl ?_
    refine jj_get hJ lay_X6 dX6_count_104 0 5 rfl rfl (Nat.le_of_ble_eq_true rfl) kw_408 rfl ?_
    cases Option.some.inj hF
    exact jj_iret hJ dX6_count_107
  replace hF := iq c12 hF
  by_cases c13 : a1 = 8
  · replace hF := ip c13 hF
    refine jj_tin hJ 108 dX6_count_1 (by rw [c13] <;> decide) (by rw [c13] <;> decide) (by rw [c13] <;> rfl) rfl ?_
    refine jj_aload_n hJ dX6_count_108 0 rfl rfl ?_
    refine jj_get hJ lay_X6 dX6_count_109 0 0 rfl rfl (Nat.le_of_ble_eq_true rfl) kw_296 rfl ?_
    refine jj_getN hJ lay_X5 dX6_count_112 1 2 rfl rfl (Nat.le_of_ble_eq_true rfl) kw_301 rfl ?_
    cases Option.some.inj hF
    exact jj_iret hJ dX6_count_115
  replace hF := iq c13 hF
  by_cases c14 : a1 = 9
  · replace hF := ip c14 hF
    refine jj_tin hJ 116 dX6_count_1 (by rw [c14] <;> decide) (by rw [c14] <;> decide) (by rw [c14] <;> rfl) rfl ?_
    refine jj_aload_n hJ dX6_count_116 0 rfl rfl ?_
    refine jj_get hJ lay_X6 dX6_count_117 0 6 rfl rfl (Nat.le_of_ble_eq_true rfl) kw_308 rfl ?_
    obtain ⟨r16, h15, hF⟩ := ob hF
    refine jj_callN0 hJ (c_X1_pairs l D cI cS cII (fun i => RA (i + 11)) L_G L_l  h15) dX6_count_120 kw_410 ⟨Nat.le_of_ble_eq_true rfl, Nat.le_of_ble_eq_true rfl, rfl, rfl⟩ kw_409 kw_411 kw_412 12 rfl rfl rfl rfl (Nat.le_of_ble_eq_true rfl) [12, 13, 14, 15, 16, 17, 18, 19, 20, 21, 22, 23] rfl rfl ?_
    cases Option.some.inj hF
    exact jj_iret hJ dX6_count_123
  replace hF := iq c14 hF
  refine jj_tout hJ 124 dX6_count_1 (by have := lv_neT c1 (show (0 : Int32).toInt = 0 from rfl); have := lv_neT c2 (show (1 : Int32).toInt = 1 from rfl); have := lv_neT c3 (show (2 : Int32).toInt = 2 from rfl); have := lv_neT c4 (show (3 : Int32).toInt = 3 from rfl); have := lv_neT c7 (show (4 : Int32).toInt = 4 from rfl); have := lv_neT c10 (show (5 : Int32).toInt = 5 from rfl); have := lv_neT c11 (show (6 : Int32).toInt = 6 from rfl); have := lv_neT c12 (show (7 : Int32).toInt = 7 from rfl); have := lv_neT c13 (show (8 : Int32).toInt = 8 from rfl); have := lv_neT c14 (show (9 : Int32).toInt = 9 from rfl); omega) rfl ?_
  refine jj_iconst hJ dX6_count_124 ic_m1 ?_
  cases Option.some.inj hF
  exact jj_iret hJ dX6_count_125
section
def W_X6_round (cI cS cII : ClassId) (RA : Nat → Nat) (R_u : Int32) (R_q : Int32) (R_r : Int32) (O_v : Nat → Int32) (O_n : Nat → Int32) (O_s : Int32) (O_a : Int32) : va_W := [((RA 0), .inr (6, [.ref (RA 1), .ref (RA 4), .ref (RA 9), .int R_u, .ref (RA 10), .int R_q, .ref (RA 11), .ref (RA 23), .ref (RA 24), .ref (RA 28), .ref (RA 31), .ref (RA 34), .int R_r])), ((RA 34), .inr (2, [.ref (RA 35), .ref (RA 36), .int O_s, .int O_a])), ((RA 35), .inl (cI, 10, .inl O_v)), ((RA 36), .inl (cI, 10, .inl O_n))]
abbrev Rm_X6_round : Room := { frames := 0, cells := 0, slots := 0, locals := 0 }
variable {l : Launch} {D : va_G} {cI cS cII : ClassId} {RA : Nat → Nat} {A : Nat → Prop} {J : jT}
variable {z_r : Int32}
def p_X6_round (O_v : Nat → Int32) (O_s : Int32) (O_a : Int32) (a1 : Int32) : Option (Int32) := if a1 < ((-1)) then (some ((-1))) else (if a1 ≤ 10 then (if O_s = 0 then (some ((-4))) else (if a1 = ((-1)) then (some O_s) else (if a1 = 10 then (some O_a) else (if O_s ≤ a1 then (some ((-4))) else ((rd O_v 10 a1).bind fun x7 => some x7))))) else (some ((-1))))
end
set_option maxRecDepth 100000 in
theorem c_X6_round (l : Launch) (D : va_G) (cI cS cII : ClassId) (RA : Nat → Nat) (R_u : Int32) (R_q : Int32) (R_r : Int32) (O_v : Nat → Int32) (O_n : Nat → Int32) (O_s : Int32) (O_a : Int32) (a1 : Int32) {z_r : Int32} (hF : p_X6_round O_v O_s O_a a1 = some z_r) : MJ l yX6_round cX6_round 2 (some .int) Rm_X6_round D (tysU cI cS cII) [.ref (RA 0), .int a1] (W_X6_round cI cS cII RA R_u R_q R_r O_v O_n O_s O_a) (some z_r) (W_X6_round cI cS cII RA R_u R_q R_r O_v O_n O_s O_a) := by
  refine mj_of (own := RX6) (by decide) rfl (Nat.le_of_ble_eq_true rfl) (fun J hJ => ?_)
  show J (W_X6_round cI cS cII RA R_u R_q R_r O_v O_n O_s O_a) 0 [(0, .ref (RA 0)), (1, .int a1)] []
  unfold p_X6_round at hF
  refine jj_iload_n hJ dX6_round_0 1 rfl rfl ?_
  refine jj_iconst hJ dX6_round_1 ic_m1 ?_
  refine jj_icmp_lt hJ 11 dX6_round_2 rfl (fun c1 => ?_) (fun c1 => ?_)
  · replace hF := ip c1 hF
    refine jj_iconst hJ dX6_round_11 ic_m1 ?_
    cases Option.some.inj hF
    exact jj_iret hJ dX6_round_12
  · replace hF := iq c1 hF
    refine jj_iload_n hJ dX6_round_5 1 rfl rfl ?_
    refine jj_bipush hJ dX6_round_6 bp_10 ?_
    refine jj_icmp_le hJ 13 dX6_round_8 rfl (fun c2 => ?_) (fun c2 => ?_)
    · replace hF := ip c2 hF
      refine jj_aload_n hJ dX6_round_13 0 rfl rfl ?_
      refine jj_get hJ lay_X6 dX6_round_14 0 11 rfl rfl (Nat.le_of_ble_eq_true rfl) kw_413 rfl ?_
      refine jj_getN hJ lay_X2 dX6_round_17 1 2 rfl rfl (Nat.le_of_ble_eq_true rfl) kw_414 rfl ?_
      refine jj_if_ne hJ 26 dX6_round_20 rfl (fun c3 => ?_) (fun c3 => ?_)
      · replace hF := iq c3 hF
        refine jj_iload_n hJ dX6_round_26 1 rfl rfl ?_
        refine jj_iconst hJ dX6_round_27 ic_m1 ?_
        refine jj_icmp_ne hJ 39 dX6_round_28 rfl (fun c4 => ?_) (fun c4 => ?_)
        · replace hF := iq c4 hF
          refine jj_iload_n hJ dX6_round_39 1 rfl rfl ?_
          refine jj_bipush hJ dX6_round_40 bp_10 ?_
          refine jj_icmp_ne hJ 53 dX6_round_42 rfl (fun c5 => ?_) (fun c5 => ?_)
          · replace hF := iq c5 hF
            refine jj_iload_n hJ dX6_round_53 1 rfl rfl ?_
            refine jj_aload_n hJ dX6_round_54 0 rfl rfl ?_
            refine jj_get hJ lay_X6 dX6_round_55 0 11 rfl rfl (Nat.le_of_ble_eq_true rfl) kw_413 rfl ?_
            refine jj_getN hJ lay_X2 dX6_round_58 1 2 rfl rfl (Nat.le_of_ble_eq_true rfl) kw_414 rfl ?_
            refine jj_icmp_ge hJ 76 dX6_round_61 rfl (fun c6 => ?_) (fun c6 => ?_)
            · replace hF := ip c6 hF
              refine jj_bipush hJ dX6_round_76 bp_m4 ?_
              cases Option.some.inj hF
              exact jj_iret hJ dX6_round_78
            · replace hF := iq c6 hF
              refine jj_aload_n hJ dX6_round_64 0 rfl rfl ?_
              refine jj_get hJ lay_X6 dX6_round_65 0 11 rfl rfl (Nat.le_of_ble_eq_true rfl) kw_413 rfl ?_
              refine jj_getN hJ lay_X2 dX6_round_68 1 0 rfl rfl (Nat.le_of_ble_eq_true rfl) kw_415 rfl ?_
              refine jj_iload_n hJ dX6_round_71 1 rfl rfl ?_
              obtain ⟨x7, h8, hF⟩ := ob hF
              refine jj_iald hJ dX6_round_72 2 0 rfl rfl h8 ?_
              refine jj_goto hJ 78 dX6_round_73 rfl ?_
              cases Option.some.inj hF
              exact jj_iret hJ dX6_round_78
          · replace hF := ip c5 hF
            refine jj_aload_n hJ dX6_round_45 0 rfl rfl ?_
            refine jj_get hJ lay_X6 dX6_round_46 0 11 rfl rfl (Nat.le_of_ble_eq_true rfl) kw_413 rfl ?_
            refine jj_getN hJ lay_X2 dX6_round_49 1 3 rfl rfl (Nat.le_of_ble_eq_true rfl) kw_416 rfl ?_
            cases Option.some.inj hF
            exact jj_iret hJ dX6_round_52
        · replace hF := ip c4 hF
          refine jj_aload_n hJ dX6_round_31 0 rfl rfl ?_
          refine jj_get hJ lay_X6 dX6_round_32 0 11 rfl rfl (Nat.le_of_ble_eq_true rfl) kw_413 rfl ?_
          refine jj_getN hJ lay_X2 dX6_round_35 1 2 rfl rfl (Nat.le_of_ble_eq_true rfl) kw_414 rfl ?_
          cases Option.some.inj hF
          exact jj_iret hJ dX6_round_38
      · replace hF := ip c3 hF
        refine jj_bipush hJ dX6_round_23 bp_m4 ?_
        cases Option.some.inj hF
        exact jj_iret hJ dX6_round_25
    · replace hF := iq c2 hF
      refine jj_iconst hJ dX6_round_11 ic_m1 ?_
      cases Option.some.inj hF
      exact jj_iret hJ dX6_round_12
section
def W_X6_remember (cI cS cII : ClassId) (RA : Nat → Nat) (R_u : Int32) (R_q : Int32) (R_r : Int32) (N_k : Nat → Int32) (N_f : Nat → Int32) (N_t : Nat → Int32) (N_w : Nat → Int32) (N_l : Int32) (N_b : Int32) (E_p : Nat → Nat) (E_k : Nat → Nat → Int32) (E_f : Nat → Nat → Int32) (E_t : Nat → Nat → Int32) (E_w : Nat → Nat → Int32) (E_l : Nat → Int32) (E_b : Nat → Int32) : va_W := ([((RA 0), .inr (6, [.ref (RA 1), .ref (RA 4), .ref (RA 9), .int R_u, .ref (RA 10), .int R_q, .ref (RA 11), .ref (RA 23), .ref (RA 24), .ref (RA 28), .ref (RA 31), .ref (RA 34), .int R_r])), ((RA 4), .inr (4, [.ref (RA 5), .ref (RA 6), .ref (RA 7), .ref (RA 8), .int N_l, .int N_b])), ((RA 5), .inl (cI, 10, .inl N_k)), ((RA 6), .inl (cI, 16, .inl N_f)), ((RA 7), .inl (cI, 16, .inl N_t)), ((RA 8), .inl (cI, 16, .inl N_w))] ++ earW cI cS RA E_p E_k E_f E_t E_w E_l E_b)
abbrev Rm_X6_remember : Room := { frames := 2, cells := 0, slots := 0, locals := 81 }
variable {l : Launch} {D : va_G} {cI cS cII : ClassId} {RA : Nat → Nat} {A : Nat → Prop} {J : jT}
variable {z_R_u : Int32} {z_E_p : Nat → Nat} {z_E_k : Nat → Nat → Int32} {z_E_f : Nat → Nat → Int32} {z_E_t : Nat → Nat → Int32} {z_E_w : Nat → Nat → Int32} {z_E_l : Nat → Int32} {z_E_b : Nat → Int32}
def q_X6_remember_58 (N_k : Nat → Int32) (N_f : Nat → Int32) (N_t : Nat → Int32) (N_w : Nat → Int32) (N_l : Int32) (N_b : Int32)  (R_u : Int32) (E_p : Nat → Nat) (E_k : Nat → Nat → Int32) (E_f : Nat → Nat → Int32) (E_t : Nat → Nat → Int32) (E_w : Nat → Nat → Int32) (E_l : Nat → Int32) (E_b : Nat → Int32) : Option (Int32 × (Nat → Nat) × (Nat → Nat → Int32) × (Nat → Nat → Int32) × (Nat → Nat → Int32) × (Nat → Nat → Int32) × (Nat → Int32) × (Nat → Int32)) := (ix 8 R_u).bind fun j1 => (ck 8 (E_p j1)).bind fun _ => (p_X4_copy (E_k ((E_p j1))) (E_f ((E_p j1))) (E_t ((E_p j1))) (E_w ((E_p j1))) (E_l ((E_p j1))) (E_b ((E_p j1))) N_k N_f N_t N_w N_l N_b).bind fun (g5, g6, g7, g8, g9, g10) => some (R_u + 1, E_p, va_up E_k ((E_p j1)) g5, va_up E_f ((E_p j1)) g6, va_up E_t ((E_p j1)) g7, va_up E_w ((E_p j1)) g8, va_up E_l ((E_p j1)) g9, va_up E_b ((E_p j1)) g10)
set_option maxRecDepth 100000 in
theorem w_X6_remember_58 {R_q : Int32} {R_r : Int32} {N_k : Nat → Int32} {N_f : Nat → Int32} {N_t : Nat → Int32} {N_w : Nat → Int32} {N_l : Int32} {N_b : Int32}   (hJ : jJ l cX6_remember 3 D (tysU cI cS cII) RX6 Rm_X6_remember none A none (W_X6_remember cI cS cII RA z_R_u R_q R_r N_k N_f N_t N_w N_l N_b z_E_p z_E_k z_E_f z_E_t z_E_w z_E_l z_E_b) J)  : ∀ (R_u : Int32) (E_p : Nat → Nat) (E_k : Nat → Nat → Int32) (E_f : Nat → Nat → Int32) (E_t : Nat → Nat → Int32) (E_w : Nat → Nat → Int32) (E_l : Nat → Int32) (E_b : Nat → Int32), q_X6_remember_58 N_k N_f N_t N_w N_l N_b R_u E_p E_k E_f E_t E_w E_l E_b = some (z_R_u, z_E_p, z_E_k, z_E_f, z_E_t, z_E_w, z_E_l, z_E_b) → J (W_X6_remember cI cS cII RA R_u R_q R_r N_k N_f N_t N_w N_l N_b E_p E_k E_f E_t E_w E_l E_b) 58 [(0, .ref (RA 0))] [] := by
  intro R_u E_p E_k E_f E_t E_w E_l E_b hF
  unfold q_X6_remember_58 at hF
  refine jj_aload_n hJ dX6_remember_58 0 rfl rfl ?_
  refine jj_get hJ lay_X6 dX6_remember_59 0 2 rfl rfl (Nat.le_of_ble_eq_true rfl) kw_417 rfl ?_
  refine jj_aload_n hJ dX6_remember_62 0 rfl rfl ?_
  refine jj_get hJ lay_X6 dX6_remember_63 0 3 rfl rfl (Nat.le_of_ble_eq_true rfl) kw_407 rfl ?_
  obtain ⟨j1, h2, hF⟩ := ob hF
  obtain ⟨_, h3, hF⟩ := ob hF
  refine jj_aald hJ dX6_remember_66 6 1 rfl rfl rfl (ix_some h2).1 (congrArg (fun i => some (RA (E_p i + 37))) (ix_some h2).2.1) ?_
  refine jj_aload_n hJ dX6_remember_67 0 rfl rfl ?_
  refine jj_get hJ lay_X6 dX6_remember_68 0 1 rfl rfl (Nat.le_of_ble_eq_true rfl) kw_306 rfl ?_
  obtain ⟨⟨g5, g6, g7, g8, g9, g10⟩, h4, hF⟩ := ob hF
  refine jj_callN hJ (c_X4_copy l D cI cS cII (fun c => RA ((E_p j1) + 8 * c + 37)) (fun i => RA (i + 4)) (E_k ((E_p j1))) (E_f ((E_p j1))) (E_t ((E_p j1))) (E_w ((E_p j1))) (E_l ((E_p j1))) (E_b ((E_p j1))) N_k N_f N_t N_w N_l N_b  h4) dX6_remember_71 kw_419 ⟨Nat.le_of_ble_eq_true rfl, Nat.le_of_ble_eq_true rfl, rfl, rfl⟩ kw_418 kw_420 kw_421 (7 + (E_p j1)) (by have hk9 := (ck_lt h3); revert hk9; generalize (E_p j1) = kk9; intro hk9; rcases lt8 hk9 with rfl | rfl | rfl | rfl | rfl | rfl | rfl | rfl <;> rfl) (ci := 4) (fs := [.ref (RA ((E_p j1) + 45)), .ref (RA ((E_p j1) + 53)), .ref (RA ((E_p j1) + 61)), .ref (RA ((E_p j1) + 69)), .int (E_l ((E_p j1))), .int (E_b ((E_p j1)))]) rfl rfl rfl (Nat.le_of_ble_eq_true rfl) [(7 + (E_p j1)), (15 + (E_p j1)), (23 + (E_p j1)), (31 + (E_p j1)), (39 + (E_p j1)), 1, 2, 3, 4, 5] (by have hk9 := (ck_lt h3); revert hk9; generalize (E_p j1) = kk9; intro hk9; rcases lt8 hk9 with rfl | rfl | rfl | rfl | rfl | rfl | rfl | rfl <;> rfl) (by have hk9 := (ck_lt h3); revert hk9; generalize (E_p j1) = kk9; intro hk9; rcases lt8 hk9 with rfl | rfl | rfl | rfl | rfl | rfl | rfl | rfl <;> rfl) (wn := (W_X6_remember cI cS cII RA R_u R_q R_r N_k N_f N_t N_w N_l N_b E_p (va_up E_k ((E_p j1)) g5) (va_up E_f ((E_p j1)) g6) (va_up E_t ((E_p j1)) g7) (va_up E_w ((E_p j1)) g8) (va_up E_l ((E_p j1)) g9) (va_up E_b ((E_p j1)) g10))) (by
      have hk9 := (ck_lt h3)
      revert hk9
      generalize (E_p j1) = kk9
      intro hk9
      rcases lt8 hk9 with rfl | rfl | rfl | rfl | rfl | rfl | rfl | rfl
      · exact jNew_sel rfl [none, some 5, some 6, some 7, some 8, some 9, none, some 0, none, none, none, none, none, none, none, some 1, none, none, none, none, none, none, none, some 2, none, none, none, none, none, none, none, some 3, none, none, none, none, none, none, none, some 4, none, none, none, none, none, none, none] (by decide +kernel) rfl
      · exact jNew_sel rfl [none, some 5, some 6, some 7, some 8, some 9, none, none, some 0, none, none, none, none, none, none, none, some 1, none, none, none, none, none, none, none, some 2, none, none, none, none, none, none, none, some 3, none, none, none, none, none, none, none, some 4, none, none, none, none, none, none] (by decide +kernel) rfl
      · exact jNew_sel rfl [none, some 5, some 6, some 7, some 8, some 9, none, none, none, some 0, none, none, none, none, none, none, none, some 1, none, none, none, none, none, none, none, some 2, none, none, none, none, none, none, none, some 3, none, none, none, none, none, none, none, some 4, none, none, none, none, none] (by decide +kernel) rfl
      · exact jNew_sel rfl [none, some 5, some 6, some 7, some 8, some 9, none, none, none, none, some 0, none, none, none, none, none, none, none, some 1, none, none, none, none, none, none, none, some 2, none, none, none, none, none, none, none, some 3, none, none, none, none, none, none, none, some 4, none, none, none, none] (by decide +kernel) rfl
      · exact jNew_sel rfl [none, some 5, some 6, some 7, some 8, some 9, none, none, none, none, none, some 0, none, none, none, none, none, none, none, some 1, none, none, none, none, none, none, none, some 2, none, none, none, none, none, none, none, some 3, none, none, none, none, none, none, none, some 4, none, none, none] (by decide +kernel) rfl
      · exact jNew_sel rfl [none, some 5, some 6, some 7, some 8, some 9, none, none, none, none, none, none, some 0, none, none, none, none, none, none, none, some 1, none, none, none, none, none, none, none, some 2, none, none, none, none, none, none, none, some 3, none, none, none, none, none, none, none, some 4, none, none] (by decide +kernel) rfl
      · exact jNew_sel rfl [none, some 5, some 6, some 7, some 8, some 9, none, none, none, none, none, none, none, some 0, none, none, none, none, none, none, none, some 1, none, none, none, none, none, none, none, some 2, none, none, none, none, none, none, none, some 3, none, none, none, none, none, none, none, some 4, none] (by decide +kernel) rfl
      · exact jNew_sel rfl [none, some 5, some 6, some 7, some 8, some 9, none, none, none, none, none, none, none, none, some 0, none, none, none, none, none, none, none, some 1, none, none, none, none, none, none, none, some 2, none, none, none, none, none, none, none, some 3, none, none, none, none, none, none, none, some 4] (by decide +kernel) rfl) ?_
  refine jj_aload_n hJ dX6_remember_74 0 rfl rfl ?_
  refine jj_dup hJ dX6_remember_75 rfl ?_
  refine jj_get hJ lay_X6 dX6_remember_76 0 3 rfl rfl (Nat.le_of_ble_eq_true rfl) kw_407 rfl ?_
  refine jj_iconst hJ dX6_remember_79 ic_1 ?_
  refine jj_iadd hJ dX6_remember_80 ?_
  refine jj_puti hJ lay_X6 tyX6 tyX6_ok nmX6 dX6_remember_81 0 3 rfl rfl (Nat.le_of_ble_eq_true rfl) kw_407 rfl rfl (Nat.le_of_ble_eq_true rfl) (wn := (W_X6_remember cI cS cII RA (R_u + 1) R_q R_r N_k N_f N_t N_w N_l N_b E_p (va_up E_k ((E_p j1)) g5) (va_up E_f ((E_p j1)) g6) (va_up E_t ((E_p j1)) g7) (va_up E_w ((E_p j1)) g8) (va_up E_l ((E_p j1)) g9) (va_up E_b ((E_p j1)) g10))) rfl ?_
  cases Option.some.inj hF
  exact jj_vret hJ dX6_remember_84
def q_X6_remember_44 (N_k : Nat → Int32) (N_f : Nat → Int32) (N_t : Nat → Int32) (N_w : Nat → Int32) (N_l : Int32) (N_b : Int32)  (n1 : Nat) (R_u : Int32) (E_p : Nat → Nat) (E_k : Nat → Nat → Int32) (E_f : Nat → Nat → Int32) (E_t : Nat → Nat → Int32) (E_w : Nat → Nat → Int32) (E_l : Nat → Int32) (E_b : Nat → Int32) : Option (Int32 × (Nat → Nat) × (Nat → Nat → Int32) × (Nat → Nat → Int32) × (Nat → Nat → Int32) × (Nat → Nat → Int32) × (Nat → Int32) × (Nat → Int32)) := (ix 8 7).bind fun j1 => (ck 8 n1).bind fun _ => q_X6_remember_58 N_k N_f N_t N_w N_l N_b 7 (va_up E_p j1 n1) E_k E_f E_t E_w E_l E_b
set_option maxRecDepth 100000 in
theorem w_X6_remember_44 {R_q : Int32} {R_r : Int32} {N_k : Nat → Int32} {N_f : Nat → Int32} {N_t : Nat → Int32} {N_w : Nat → Int32} {N_l : Int32} {N_b : Int32}   (hJ : jJ l cX6_remember 3 D (tysU cI cS cII) RX6 Rm_X6_remember none A none (W_X6_remember cI cS cII RA z_R_u R_q R_r N_k N_f N_t N_w N_l N_b z_E_p z_E_k z_E_f z_E_t z_E_w z_E_l z_E_b) J)  : ∀ (n1 : Nat) (R_u : Int32) (E_p : Nat → Nat) (E_k : Nat → Nat → Int32) (E_f : Nat → Nat → Int32) (E_t : Nat → Nat → Int32) (E_w : Nat → Nat → Int32) (E_l : Nat → Int32) (E_b : Nat → Int32), q_X6_remember_44 N_k N_f N_t N_w N_l N_b n1 R_u E_p E_k E_f E_t E_w E_l E_b = some (z_R_u, z_E_p, z_E_k, z_E_f, z_E_t, z_E_w, z_E_l, z_E_b) → J (W_X6_remember cI cS cII RA R_u R_q R_r N_k N_f N_t N_w N_l N_b E_p E_k E_f E_t E_w E_l E_b) 44 [(1, .ref (RA (n1 + 37))), (0, .ref (RA 0))] [] := by
  intro n1 R_u E_p E_k E_f E_t E_w E_l E_b hF
  unfold q_X6_remember_44 at hF
  refine jj_aload_n hJ dX6_remember_44 1 rfl rfl ?_
  refine jj_get hJ lay_X6 dX6_remember_45 0 2 rfl rfl (Nat.le_of_ble_eq_true rfl) kw_417 rfl ?_
  refine jj_bipush hJ dX6_remember_48 bp_7 ?_
  refine jj_aload_n hJ dX6_remember_50 0 rfl rfl ?_
  obtain ⟨j1, h2, hF⟩ := ob hF
  obtain ⟨_, h3, hF⟩ := ob hF
  refine jj_aast hJ (r := (RX4, TX4, 6)) (ci := 4) (vs := [.ref (RA (n1 + 45)), .ref (RA (n1 + 53)), .ref (RA (n1 + 61)), .ref (RA (n1 + 69)), .int (E_l n1), .int (E_b n1)]) (g := fun i => some (RA ((va_up E_p j1 n1) i + 37))) dX6_remember_51 6 1 (7 + n1) rfl rfl (by have hk9 := (ck_lt h3); revert hk9; generalize n1 = kk9; intro hk9; rcases lt8 hk9 with rfl | rfl | rfl | rfl | rfl | rfl | rfl | rfl <;> rfl) rfl (ix_some h2).1 (by rw [(ix_some h2).2.1]; exact up_ear) (wn := (W_X6_remember cI cS cII RA R_u R_q R_r N_k N_f N_t N_w N_l N_b (va_up E_p j1 n1) E_k E_f E_t E_w E_l E_b)) rfl ?_
  refine jj_aload_n hJ dX6_remember_52 1 rfl rfl ?_
  refine jj_bipush hJ dX6_remember_53 bp_7 ?_
  refine jj_puti hJ lay_X6 tyX6 tyX6_ok nmX6 dX6_remember_55 0 3 rfl rfl (Nat.le_of_ble_eq_true rfl) kw_407 rfl rfl (Nat.le_of_ble_eq_true rfl) (wn := (W_X6_remember cI cS cII RA 7 R_q R_r N_k N_f N_t N_w N_l N_b (va_up E_p j1 n1) E_k E_f E_t E_w E_l E_b)) rfl ?_
  refine jj_lv hJ [1] (lv' := [(0, .ref (RA 0))]) rfl ?_
  exact w_X6_remember_58 hJ  7 (va_up E_p j1 n1) E_k E_f E_t E_w E_l E_b hF
def q_X6_remember_18 (N_k : Nat → Int32) (N_f : Nat → Int32) (N_t : Nat → Int32) (N_w : Nat → Int32) (N_l : Int32) (N_b : Int32)  : Nat → Int32 → Nat → Int32 → (Nat → Nat) → (Nat → Nat → Int32) → (Nat → Nat → Int32) → (Nat → Nat → Int32) → (Nat → Nat → Int32) → (Nat → Int32) → (Nat → Int32) → Option (Int32 × (Nat → Nat) × (Nat → Nat → Int32) × (Nat → Nat → Int32) × (Nat → Nat → Int32) × (Nat → Nat → Int32) × (Nat → Int32) × (Nat → Int32))
  | 0, _, _, _, _, _, _, _, _, _, _ => none
  | n + 1, v2, n1, R_u, E_p, E_k, E_f, E_t, E_w, E_l, E_b => if 8 ≤ v2 then (q_X6_remember_44 N_k N_f N_t N_w N_l N_b n1 R_u E_p E_k E_f E_t E_w E_l E_b) else ((ix 8 v2).bind fun j2 => (ck 8 (E_p j2)).bind fun _ => (ix 8 (v2 - 1)).bind fun j5 => q_X6_remember_18 N_k N_f N_t N_w N_l N_b n (v2 + 1) n1 R_u (va_up E_p j5 ((E_p j2))) E_k E_f E_t E_w E_l E_b)
set_option maxRecDepth 100000 in
theorem w_X6_remember_18 {R_q : Int32} {R_r : Int32} {N_k : Nat → Int32} {N_f : Nat → Int32} {N_t : Nat → Int32} {N_w : Nat → Int32} {N_l : Int32} {N_b : Int32}   (hJ : jJ l cX6_remember 3 D (tysU cI cS cII) RX6 Rm_X6_remember none A none (W_X6_remember cI cS cII RA z_R_u R_q R_r N_k N_f N_t N_w N_l N_b z_E_p z_E_k z_E_f z_E_t z_E_w z_E_l z_E_b) J)  : ∀ (n : Nat) (v2 : Int32) (n1 : Nat) (R_u : Int32) (E_p : Nat → Nat) (E_k : Nat → Nat → Int32) (E_f : Nat → Nat → Int32) (E_t : Nat → Nat → Int32) (E_w : Nat → Nat → Int32) (E_l : Nat → Int32) (E_b : Nat → Int32), q_X6_remember_18 N_k N_f N_t N_w N_l N_b n v2 n1 R_u E_p E_k E_f E_t E_w E_l E_b = some (z_R_u, z_E_p, z_E_k, z_E_f, z_E_t, z_E_w, z_E_l, z_E_b) → J (W_X6_remember cI cS cII RA R_u R_q R_r N_k N_f N_t N_w N_l N_b E_p E_k E_f E_t E_w E_l E_b) 18 [(2, .int v2), (1, .ref (RA (n1 + 37))), (0, .ref (RA 0))] [] := by
  intro n
  induction n with
  | zero =>
    intro v2 n1 R_u E_p E_k E_f E_t E_w E_l E_b hF
    exact no_some (show (none : Option (Int32 × (Nat → Nat) × (Nat → Nat → Int32) × (Nat → Nat → Int32) × (Nat → Nat → Int32) × (Nat → Nat → Int32) × (Nat → Int32) × (Nat → Int32))) = some (z_R_u, z_E_p, z_E_k, z_E_f, z_E_t, z_E_w, z_E_l, z_E_b) from hF)
  | succ n ih =>
    intro v2 n1 R_u E_p E_k E_f E_t E_w E_l E_b hF
    rw [q_X6_remember_18.eq_2] at hF
    refine jj_iload_n hJ dX6_remember_18 0 rfl rfl ?_
    refine jj_bipush hJ dX6_remember_19 bp_8 ?_
    refine jj_icmp_ge hJ 44 dX6_remember_21 rfl (fun c1 => ?_) (fun c1 => ?_)
    · replace hF := ip c1 hF
      refine jj_lv hJ [1, 2] (lv' := [(1, .ref (RA (n1 + 37))), (0, .ref (RA 0))]) rfl ?_
      exact w_X6_remember_44 hJ  n1 R_u E_p E_k E_f E_t E_w E_l E_b hF
    · replace hF := iq c1 hF
      refine jj_aload_n hJ dX6_remember_24 2 rfl rfl ?_
      refine jj_get hJ lay_X6 dX6_remember_25 0 2 rfl rfl (Nat.le_of_ble_eq_true rfl) kw_417 rfl ?_
      refine jj_iload_n hJ dX6_remember_28 0 rfl rfl ?_
      refine jj_iconst hJ dX6_remember_29 ic_1 ?_
      refine jj_isub hJ dX6_remember_30 ?_
      refine jj_aload_n hJ dX6_remember_31 2 rfl rfl ?_
      refine jj_get hJ lay_X6 dX6_remember_32 0 2 rfl rfl (Nat.le_of_ble_eq_true rfl) kw_417 rfl ?_
      refine jj_iload_n hJ dX6_remember_35 0 rfl rfl ?_
      obtain ⟨j2, h3, hF⟩ := ob hF
      obtain ⟨_, h4, hF⟩ := ob hF
      refine jj_aald hJ dX6_remember_36 6 1 rfl rfl rfl (ix_some h3).1 (congrArg (fun i => some (RA (E_p i + 37))) (ix_some h3).2.1) ?_
      obtain ⟨j5, h6, hF⟩ := ob hF
      refine jj_aast hJ (r := (RX4, TX4, 6)) (ci := 4) (vs := [.ref (RA ((E_p j2) + 45)), .ref (RA ((E_p j2) + 53)), .ref (RA ((E_p j2) + 61)), .ref (RA ((E_p j2) + 69)), .int (E_l ((E_p j2))), .int (E_b ((E_p j2)))]) (g := fun i => some (RA ((va_up E_p j5 ((E_p j2))) i + 37))) dX6_remember_37 6 1 (7 + (E_p j2)) rfl rfl (by have hk9 := (ck_lt h4); revert hk9; generalize (E_p j2) = kk9; intro hk9; rcases lt8 hk9 with rfl | rfl | rfl | rfl | rfl | rfl | rfl | rfl <;> rfl) rfl (ix_some h6).1 (by rw [(ix_some h6).2.1]; exact up_ear) (wn := (W_X6_remember cI cS cII RA R_u R_q R_r N_k N_f N_t N_w N_l N_b (va_up E_p j5 ((E_p j2))) E_k E_f E_t E_w E_l E_b)) rfl ?_
      refine jj_iinc hJ dX6_remember_38 0 rfl (v := v2 + 1) (by rw [ic_1]) (Nat.le_of_ble_eq_true rfl) (lv' := [(2, .int (v2 + 1)), (1, .ref (RA (n1 + 37))), (0, .ref (RA 0))]) rfl ?_
      refine jj_goto hJ 18 dX6_remember_41 rfl ?_
      exact ih (v2 + 1) n1 R_u (va_up E_p j5 ((E_p j2))) E_k E_f E_t E_w E_l E_b hF
def p_X6_remember (R_u : Int32) (N_k : Nat → Int32) (N_f : Nat → Int32) (N_t : Nat → Int32) (N_w : Nat → Int32) (N_l : Int32) (N_b : Int32) (E_p : Nat → Nat) (E_k : Nat → Nat → Int32) (E_f : Nat → Nat → Int32) (E_t : Nat → Nat → Int32) (E_w : Nat → Nat → Int32) (E_l : Nat → Int32) (E_b : Nat → Int32) : Option (Int32 × (Nat → Nat) × (Nat → Nat → Int32) × (Nat → Nat → Int32) × (Nat → Nat → Int32) × (Nat → Nat → Int32) × (Nat → Int32) × (Nat → Int32)) := if R_u < 8 then (q_X6_remember_58 N_k N_f N_t N_w N_l N_b R_u E_p E_k E_f E_t E_w E_l E_b) else ((ix 8 0).bind fun j2 => (ck 8 (E_p j2)).bind fun _ => q_X6_remember_18 N_k N_f N_t N_w N_l N_b FU 1 ((E_p j2)) R_u E_p E_k E_f E_t E_w E_l E_b)
end
set_option maxRecDepth 100000 in
theorem c_X6_remember (l : Launch) (D : va_G) (cI cS cII : ClassId) (RA : Nat → Nat) (R_u : Int32) (R_q : Int32) (R_r : Int32) (N_k : Nat → Int32) (N_f : Nat → Int32) (N_t : Nat → Int32) (N_w : Nat → Int32) (N_l : Int32) (N_b : Int32) (E_p : Nat → Nat) (E_k : Nat → Nat → Int32) (E_f : Nat → Nat → Int32) (E_t : Nat → Nat → Int32) (E_w : Nat → Nat → Int32) (E_l : Nat → Int32) (E_b : Nat → Int32)  {z_R_u : Int32} {z_E_p : Nat → Nat} {z_E_k : Nat → Nat → Int32} {z_E_f : Nat → Nat → Int32} {z_E_t : Nat → Nat → Int32} {z_E_w : Nat → Nat → Int32} {z_E_l : Nat → Int32} {z_E_b : Nat → Int32} (hF : p_X6_remember R_u N_k N_f N_t N_w N_l N_b E_p E_k E_f E_t E_w E_l E_b = some (z_R_u, z_E_p, z_E_k, z_E_f, z_E_t, z_E_w, z_E_l, z_E_b)) : MJ l yX6_remember cX6_remember 3 none Rm_X6_remember D (tysU cI cS cII) [.ref (RA 0)] (W_X6_remember cI cS cII RA R_u R_q R_r N_k N_f N_t N_w N_l N_b E_p E_k E_f E_t E_w E_l E_b) none (W_X6_remember cI cS cII RA z_R_u R_q R_r N_k N_f N_t N_w N_l N_b z_E_p z_E_k z_E_f z_E_t z_E_w z_E_l z_E_b) := by
  refine mj_of (own := RX6) (by decide) rfl (Nat.le_of_ble_eq_true rfl) (fun J hJ => ?_)
  show J (W_X6_remember cI cS cII RA R_u R_q R_r N_k N_f N_t N_w N_l N_b E_p E_k E_f E_t E_w E_l E_b) 0 [(0, .ref (RA 0))] []
  unfold p_X6_remember at hF
  refine jj_aload_n hJ dX6_remember_0 0 rfl rfl ?_
  refine jj_get hJ lay_X6 dX6_remember_1 0 3 rfl rfl (Nat.le_of_ble_eq_true rfl) kw_407 rfl ?_
  refine jj_bipush hJ dX6_remember_4 bp_8 ?_
  refine jj_icmp_lt hJ 58 dX6_remember_6 rfl (fun c1 => ?_) (fun c1 => ?_)
  · replace hF := ip c1 hF
    exact w_X6_remember_58 hJ  R_u E_p E_k E_f E_t E_w E_l E_b hF
  · replace hF := iq c1 hF
    refine jj_aload_n hJ dX6_remember_9 0 rfl rfl ?_
    refine jj_get hJ lay_X6 dX6_remember_10 0 2 rfl rfl (Nat.le_of_ble_eq_true rfl) kw_417 rfl ?_
    refine jj_iconst hJ dX6_remember_13 ic_0 ?_
    obtain ⟨j2, h3, hF⟩ := ob hF
    obtain ⟨_, h4, hF⟩ := ob hF
    refine jj_aald hJ dX6_remember_14 6 1 rfl rfl rfl (ix_some h3).1 (congrArg (fun i => some (RA (E_p i + 37))) (ix_some h3).2.1) ?_
    refine jj_astore_n hJ dX6_remember_15 rfl (Nat.le_of_ble_eq_true rfl) (lv' := [(1, .ref (RA ((E_p j2) + 37))), (0, .ref (RA 0))]) rfl ?_
    refine jj_iconst hJ dX6_remember_16 ic_1 ?_
    refine jj_istore_n hJ dX6_remember_17 rfl (Nat.le_of_ble_eq_true rfl) (lv' := [(2, .int 1), (1, .ref (RA ((E_p j2) + 37))), (0, .ref (RA 0))]) rfl ?_
    exact w_X6_remember_18 hJ  FU 1 ((E_p j2)) R_u E_p E_k E_f E_t E_w E_l E_b hF
section
def W_X6_rename (cI cS cII : ClassId) (RA : Nat → Nat) (R_u : Int32) (R_q : Int32) (R_r : Int32) (N_k : Nat → Int32) (N_f : Nat → Int32) (N_t : Nat → Int32) (N_w : Nat → Int32) (N_l : Int32) (N_b : Int32) (E_p : Nat → Nat) (E_k : Nat → Nat → Int32) (E_f : Nat → Nat → Int32) (E_t : Nat → Nat → Int32) (E_w : Nat → Nat → Int32) (E_l : Nat → Int32) (E_b : Nat → Int32) : va_W := ([((RA 0), .inr (6, [.ref (RA 1), .ref (RA 4), .ref (RA 9), .int R_u, .ref (RA 10), .int R_q, .ref (RA 11), .ref (RA 23), .ref (RA 24), .ref (RA 28), .ref (RA 31), .ref (RA 34), .int R_r])), ((RA 4), .inr (4, [.ref (RA 5), .ref (RA 6), .ref (RA 7), .ref (RA 8), .int N_l, .int N_b])), ((RA 5), .inl (cI, 10, .inl N_k)), ((RA 6), .inl (cI, 16, .inl N_f)), ((RA 7), .inl (cI, 16, .inl N_t)), ((RA 8), .inl (cI, 16, .inl N_w))] ++ earW cI cS RA E_p E_k E_f E_t E_w E_l E_b)
abbrev Rm_X6_rename : Room := { frames := 3, cells := 0, slots := 0, locals := 103 }
variable {l : Launch} {D : va_G} {cI cS cII : ClassId} {RA : Nat → Nat} {A : Nat → Prop} {J : jT}
variable {z_r : Int32} {z_R_u : Int32} {z_N_k : Nat → Int32} {z_E_p : Nat → Nat} {z_E_k : Nat → Nat → Int32} {z_E_f : Nat → Nat → Int32} {z_E_t : Nat → Nat → Int32} {z_E_w : Nat → Nat → Int32} {z_E_l : Nat → Int32} {z_E_b : Nat → Int32}
def p_X6_rename (R_u : Int32) (N_k : Nat → Int32) (N_f : Nat → Int32) (N_t : Nat → Int32) (N_w : Nat → Int32) (N_l : Int32) (N_b : Int32) (E_p : Nat → Nat) (E_k : Nat → Nat → Int32) (E_f : Nat → Nat → Int32) (E_t : Nat → Nat → Int32) (E_w : Nat → Nat → Int32) (E_l : Nat → Int32) (E_b : Nat → Int32) (a1 : Int32) (a2 : Int32) : Option (Int32 × Int32 × (Nat → Int32) × (Nat → Nat) × (Nat → Nat → Int32) × (Nat → Nat → Int32) × (Nat → Nat → Int32) × (Nat → Nat → Int32) × (Nat → Int32) × (Nat → Int32)) := (p_X6_isLevel N_l a1).bind fun r2 => if r2 = 0 then (some ((-1), R_u, N_k, E_p, E_k, E_f, E_t, E_w, E_l, E_b)) else (if a2 < 0 then (some ((-1), R_u, N_k, E_p, E_k, E_f, E_t, E_w, E_l, E_b)) else (if a2 ≤ 3 then ((rd N_k 10 a1).bind fun x6 => if x6 = a2 then (some ((-2), R_u, N_k, E_p, E_k, E_f, E_t, E_w, E_l, E_b)) else ((p_X6_remember R_u N_k N_f N_t N_w N_l N_b E_p E_k E_f E_t E_w E_l E_b).bind fun (g10, g11, g12, g13, g14, g15, g16, g17) => (wr N_k 10 a1 a2).bind fun g18 => some (x6, g10, g18, g11, g12, g13, g14, g15, g16, g17))) else (some ((-1), R_u, N_k, E_p, E_k, E_f, E_t, E_w, E_l, E_b))))
end
set_option maxRecDepth 100000 in
theorem c_X6_rename (l : Launch) (D : va_G) (cI cS cII : ClassId) (RA : Nat → Nat) (R_u : Int32) (R_q : Int32) (R_r : Int32) (N_k : Nat → Int32) (N_f : Nat → Int32) (N_t : Nat → Int32) (N_w : Nat → Int32) (N_l : Int32) (N_b : Int32) (E_p : Nat → Nat) (E_k : Nat → Nat → Int32) (E_f : Nat → Nat → Int32) (E_t : Nat → Nat → Int32) (E_w : Nat → Nat → Int32) (E_l : Nat → Int32) (E_b : Nat → Int32) (a1 : Int32) (a2 : Int32) {z_r : Int32} {z_R_u : Int32} {z_N_k : Nat → Int32} {z_E_p : Nat → Nat} {z_E_k : Nat → Nat → Int32} {z_E_f : Nat → Nat → Int32} {z_E_t : Nat → Nat → Int32} {z_E_w : Nat → Nat → Int32} {z_E_l : Nat → Int32} {z_E_b : Nat → Int32} (hF : p_X6_rename R_u N_k N_f N_t N_w N_l N_b E_p E_k E_f E_t E_w E_l E_b a1 a2 = some (z_r, z_R_u, z_N_k, z_E_p, z_E_k, z_E_f, z_E_t, z_E_w, z_E_l, z_E_b)) : MJ l yX6_rename cX6_rename 4 (some .int) Rm_X6_rename D (tysU cI cS cII) [.ref (RA 0), .int a1, .int a2] (W_X6_rename cI cS cII RA R_u R_q R_r N_k N_f N_t N_w N_l N_b E_p E_k E_f E_t E_w E_l E_b) (some z_r) (W_X6_rename cI cS cII RA z_R_u R_q R_r z_N_k N_f N_t N_w N_l N_b z_E_p z_E_k z_E_f z_E_t z_E_w z_E_l z_E_b) := by
  refine mj_of (own := RX6) (by decide) rfl (Nat.le_of_ble_eq_true rfl) (fun J hJ => ?_)
  show J (W_X6_rename cI cS cII RA R_u R_q R_r N_k N_f N_t N_w N_l N_b E_p E_k E_f E_t E_w E_l E_b) 0 [(0, .ref (RA 0)), (1, .int a1), (2, .int a2)] []
  unfold p_X6_rename at hF
  refine jj_aload_n hJ dX6_rename_0 0 rfl rfl ?_
  refine jj_iload_n hJ dX6_rename_1 1 rfl rfl ?_
  obtain ⟨r2, h1, hF⟩ := ob hF
  refine jj_callV0 hJ (c_X6_isLevel l D cI cS cII RA R_u R_q R_r N_k N_f N_t N_w N_l N_b a1 h1) dX6_rename_2 kw_312 ⟨Nat.le_of_ble_eq_true rfl, Nat.le_of_ble_eq_true rfl, rfl, rfl⟩ kw_311 kw_313 kw_314 0 rfl rfl rfl rfl (Nat.le_of_ble_eq_true rfl) [0, 1, 2, 3, 4, 5] rfl rfl ?_
  refine jj_if_eq hJ 17 dX6_rename_5 rfl (fun c3 => ?_) (fun c3 => ?_)
  · replace hF := ip c3 hF
    refine jj_iconst hJ dX6_rename_17 ic_m1 ?_
    cases Option.some.inj hF
    exact jj_iret hJ dX6_rename_18
  · replace hF := iq c3 hF
    refine jj_iload_n hJ dX6_rename_8 2 rfl rfl ?_
    refine jj_if_lt hJ 17 dX6_rename_9 rfl (fun c4 => ?_) (fun c4 => ?_)
    · replace hF := ip c4 hF
      refine jj_iconst hJ dX6_rename_17 ic_m1 ?_
      cases Option.some.inj hF
      exact jj_iret hJ dX6_rename_18
    · replace hF := iq c4 hF
      refine jj_iload_n hJ dX6_rename_12 2 rfl rfl ?_
      refine jj_iconst hJ dX6_rename_13 ic_3 ?_
      refine jj_icmp_le hJ 19 dX6_rename_14 rfl (fun c5 => ?_) (fun c5 => ?_)
      · replace hF := ip c5 hF
        refine jj_aload_n hJ dX6_rename_19 0 rfl rfl ?_
        refine jj_get hJ lay_X6 dX6_rename_20 0 1 rfl rfl (Nat.le_of_ble_eq_true rfl) kw_306 rfl ?_
        refine jj_getN hJ lay_X4 dX6_rename_23 1 0 rfl rfl (Nat.le_of_ble_eq_true rfl) kw_315 rfl ?_
        refine jj_iload_n hJ dX6_rename_26 1 rfl rfl ?_
        obtain ⟨x6, h7, hF⟩ := ob hF
        refine jj_iald hJ dX6_rename_27 2 0 rfl rfl h7 ?_
        refine jj_istore_n hJ dX6_rename_28 rfl (Nat.le_of_ble_eq_true rfl) (lv' := [(3, .int x6), (0, .ref (RA 0)), (1, .int a1), (2, .int a2)]) rfl ?_
        refine jj_iload_n hJ dX6_rename_29 0 rfl rfl ?_
        refine jj_iload_n hJ dX6_rename_30 3 rfl rfl ?_
        refine jj_icmp_ne hJ 37 dX6_rename_31 rfl (fun c8 => ?_) (fun c8 => ?_)
        · replace hF := iq c8 hF
          refine jj_aload_n hJ dX6_rename_37 1 rfl rfl ?_
          obtain ⟨⟨g10, g11, g12, g13, g14, g15, g16, g17⟩, h9, hF⟩ := ob hF
          refine jj_callV hJ (c_X6_remember l D cI cS cII RA R_u R_q R_r N_k N_f N_t N_w N_l N_b E_p E_k E_f E_t E_w E_l E_b  h9) dX6_rename_38 kw_423 ⟨Nat.le_of_ble_eq_true rfl, Nat.le_of_ble_eq_true rfl, rfl, rfl⟩ kw_422 kw_424 kw_425 0 rfl rfl rfl rfl (Nat.le_of_ble_eq_true rfl) [0, 1, 2, 3, 4, 5, 6, 7, 8, 9, 10, 11, 12, 13, 14, 15, 16, 17, 18, 19, 20, 21, 22, 23, 24, 25, 26, 27, 28, 29, 30, 31, 32, 33, 34, 35, 36, 37, 38, 39, 40, 41, 42, 43, 44, 45, 46] rfl rfl (wn := (W_X6_rename cI cS cII RA g10 R_q R_r N_k N_f N_t N_w N_l N_b g11 g12 g13 g14 g15 g16 g17)) (jNew_sel rfl [some 0, some 1, some 2, some 3, some 4, some 5, some 6, some 7, some 8, some 9, some 10, some 11, some 12, some 13, some 14, some 15, some 16, some 17, some 18, some 19, some 20, some 21, some 22, some 23, some 24, some 25, some 26, some 27, some 28, some 29, some 30, some 31, some 32, some 33, some 34, some 35, some 36, some 37, some 38, some 39, some 40, some 41, some 42, some 43, some 44, some 45, some 46] (by decide +kernel) rfl) ?_
          refine jj_aload_n hJ dX6_rename_41 1 rfl rfl ?_
          refine jj_get hJ lay_X6 dX6_rename_42 0 1 rfl rfl (Nat.le_of_ble_eq_true rfl) kw_306 rfl ?_
          refine jj_getN hJ lay_X4 dX6_rename_45 1 0 rfl rfl (Nat.le_of_ble_eq_true rfl) kw_315 rfl ?_
          refine jj_iload_n hJ dX6_rename_48 2 rfl rfl ?_
          refine jj_iload_n hJ dX6_rename_49 3 rfl rfl ?_
          obtain ⟨g18, h19, hF⟩ := ob hF
          refine jj_iast hJ dX6_rename_50 2 0 rfl rfl h19 (wn := (W_X6_rename cI cS cII RA g10 R_q R_r g18 N_f N_t N_w N_l N_b g11 g12 g13 g14 g15 g16 g17)) rfl ?_
          refine jj_iload_n hJ dX6_rename_51 0 rfl rfl ?_
          cases Option.some.inj hF
          exact jj_iret hJ dX6_rename_52
        · replace hF := ip c8 hF
          refine jj_bipush hJ dX6_rename_34 bp_m2 ?_
          cases Option.some.inj hF
          exact jj_iret hJ dX6_rename_36
      · replace hF := iq c5 hF
        refine jj_iconst hJ dX6_rename_17 ic_m1 ?_
        cases Option.some.inj hF
        exact jj_iret hJ dX6_rename_18
section
def W_X6_retract (cI cS cII : ClassId) (RA : Nat → Nat) (R_u : Int32) (R_q : Int32) (R_r : Int32) (N_k : Nat → Int32) (N_f : Nat → Int32) (N_t : Nat → Int32) (N_w : Nat → Int32) (N_l : Int32) (N_b : Int32) (E_p : Nat → Nat) (E_k : Nat → Nat → Int32) (E_f : Nat → Nat → Int32) (E_t : Nat → Nat → Int32) (E_w : Nat → Nat → Int32) (E_l : Nat → Int32) (E_b : Nat → Int32) (L_G : Nat → Nat → Int32) (L_l : Int32) : va_W := (([((RA 0), .inr (6, [.ref (RA 1), .ref (RA 4), .ref (RA 9), .int R_u, .ref (RA 10), .int R_q, .ref (RA 11), .ref (RA 23), .ref (RA 24), .ref (RA 28), .ref (RA 31), .ref (RA 34), .int R_r])), ((RA 4), .inr (4, [.ref (RA 5), .ref (RA 6), .ref (RA 7), .ref (RA 8), .int N_l, .int N_b])), ((RA 5), .inl (cI, 10, .inl N_k)), ((RA 6), .inl (cI, 16, .inl N_f)), ((RA 7), .inl (cI, 16, .inl N_t)), ((RA 8), .inl (cI, 16, .inl N_w)), ((RA 11), .inr (1, [.ref (RA 12), .int L_l])), ((RA 12), .inl (cII, 10, .inr (.inr (.inr (.inr (fun i => some (RA (i + 13))))))))] ++ earW cI cS RA E_p E_k E_f E_t E_w E_l E_b) ++ rw10 cI (fun i => RA (i + 13)) L_G)
abbrev Rm_X6_retract : Room := { frames := 3, cells := 0, slots := 0, locals := 103 }
variable {l : Launch} {D : va_G} {cI cS cII : ClassId} {RA : Nat → Nat} {A : Nat → Prop} {J : jT}
variable {z_r : Int32} {z_R_u : Int32} {z_N_f : Nat → Int32} {z_N_t : Nat → Int32} {z_N_w : Nat → Int32} {z_N_b : Int32} {z_E_p : Nat → Nat} {z_E_k : Nat → Nat → Int32} {z_E_f : Nat → Nat → Int32} {z_E_t : Nat → Nat → Int32} {z_E_w : Nat → Nat → Int32} {z_E_l : Nat → Int32} {z_E_b : Nat → Int32} {z_L_G : Nat → Nat → Int32} {z_L_l : Int32}
def p_X6_retract (R_u : Int32) (N_k : Nat → Int32) (N_f : Nat → Int32) (N_t : Nat → Int32) (N_w : Nat → Int32) (N_l : Int32) (N_b : Int32) (E_p : Nat → Nat) (E_k : Nat → Nat → Int32) (E_f : Nat → Nat → Int32) (E_t : Nat → Nat → Int32) (E_w : Nat → Nat → Int32) (E_l : Nat → Int32) (E_b : Nat → Int32) (L_G : Nat → Nat → Int32) (L_l : Int32) (a1 : Int32) : Option (Int32 × Int32 × (Nat → Int32) × (Nat → Int32) × (Nat → Int32) × Int32 × (Nat → Nat) × (Nat → Nat → Int32) × (Nat → Nat → Int32) × (Nat → Nat → Int32) × (Nat → Nat → Int32) × (Nat → Int32) × (Nat → Int32) × (Nat → Nat → Int32) × Int32) := (p_X6_isBound N_b a1).bind fun r2 => if r2 = 0 then (some ((-1), R_u, N_f, N_t, N_w, N_b, E_p, E_k, E_f, E_t, E_w, E_l, E_b, L_G, L_l)) else ((p_X6_remember R_u N_k N_f N_t N_w N_l N_b E_p E_k E_f E_t E_w E_l E_b).bind fun (g5, g6, g7, g8, g9, g10, g11, g12) => (p_X4_takeBack N_f N_t N_w N_b a1).bind fun (g14, g15, g16, g17) => (p_X1_measure g14 g15 g16 N_l g17 L_G L_l).bind fun (g19, g20) => some (g17, g5, g14, g15, g16, g17, g6, g7, g8, g9, g10, g11, g12, g19, g20))
end
set_option maxRecDepth 100000 in
theorem c_X6_retract (l : Launch) (D : va_G) (cI cS cII : ClassId) (RA : Nat → Nat) (R_u : Int32) (R_q : Int32) (R_r : Int32) (N_k : Nat → Int32) (N_f : Nat → Int32) (N_t : Nat → Int32) (N_w : Nat → Int32) (N_l : Int32) (N_b : Int32) (E_p : Nat → Nat) (E_k : Nat → Nat → Int32) (E_f : Nat → Nat → Int32) (E_t : Nat → Nat → Int32) (E_w : Nat → Nat → Int32) (E_l : Nat → Int32) (E_b : Nat → Int32) (L_G : Nat → Nat → Int32) (L_l : Int32) (a1 : Int32) {z_r : Int32} {z_R_u : Int32} {z_N_f : Nat → Int32} {z_N_t : Nat → Int32} {z_N_w : Nat → Int32} {z_N_b : Int32} {z_E_p : Nat → Nat} {z_E_k : Nat → Nat → Int32} {z_E_f : Nat → Nat → Int32} {z_E_t : Nat → Nat → Int32} {z_E_w : Nat → Nat → Int32} {z_E_l : Nat → Int32} {z_E_b : Nat → Int32} {z_L_G : Nat → Nat → Int32} {z_L_l : Int32} (hF : p_X6_retract R_u N_k N_f N_t N_w N_l N_b E_p E_k E_f E_t E_w E_l E_b L_G L_l a1 = some (z_r, z_R_u, z_N_f, z_N_t, z_N_w, z_N_b, z_E_p, z_E_k, z_E_f, z_E_t, z_E_w, z_E_l, z_E_b, z_L_G, z_L_l)) : MJ l yX6_retract cX6_retract 2 (some .int) Rm_X6_retract D (tysU cI cS cII) [.ref (RA 0), .int a1] (W_X6_retract cI cS cII RA R_u R_q R_r N_k N_f N_t N_w N_l N_b E_p E_k E_f E_t E_w E_l E_b L_G L_l) (some z_r) (W_X6_retract cI cS cII RA z_R_u R_q R_r N_k z_N_f z_N_t z_N_w N_l z_N_b z_E_p z_E_k z_E_f z_E_t z_E_w z_E_l z_E_b z_L_G z_L_l) := by
  refine mj_of (own := RX6) (by decide) rfl (Nat.le_of_ble_eq_true rfl) (fun J hJ => ?_)
  show J (W_X6_retract cI cS cII RA R_u R_q R_r N_k N_f N_t N_w N_l N_b E_p E_k E_f E_t E_w E_l E_b L_G L_l) 0 [(0, .ref (RA 0)), (1, .int a1)] []
  unfold p_X6_retract at hF
  refine jj_aload_n hJ dX6_retract_0 0 rfl rfl ?_
  refine jj_iload_n hJ dX6_retract_1 1 rfl rfl ?_
  obtain ⟨r2, h1, hF⟩ := ob hF
  refine jj_callV0 hJ (c_X6_isBound l D cI cS cII RA R_u R_q R_r N_k N_f N_t N_w N_l N_b a1 h1) dX6_retract_2 kw_336 ⟨Nat.le_of_ble_eq_true rfl, Nat.le_of_ble_eq_true rfl, rfl, rfl⟩ kw_335 kw_337 kw_338 0 rfl rfl rfl rfl (Nat.le_of_ble_eq_true rfl) [0, 1, 2, 3, 4, 5] rfl rfl ?_
  refine jj_if_ne hJ 10 dX6_retract_5 rfl (fun c3 => ?_) (fun c3 => ?_)
  · replace hF := iq c3 hF
    refine jj_aload_n hJ dX6_retract_10 0 rfl rfl ?_
    obtain ⟨⟨g5, g6, g7, g8, g9, g10, g11, g12⟩, h4, hF⟩ := ob hF
    refine jj_callV hJ (c_X6_remember l D cI cS cII RA R_u R_q R_r N_k N_f N_t N_w N_l N_b E_p E_k E_f E_t E_w E_l E_b  h4) dX6_retract_11 kw_423 ⟨Nat.le_of_ble_eq_true rfl, Nat.le_of_ble_eq_true rfl, rfl, rfl⟩ kw_422 kw_424 kw_425 0 rfl rfl rfl rfl (Nat.le_of_ble_eq_true rfl) [0, 1, 2, 3, 4, 5, 8, 9, 10, 11, 12, 13, 14, 15, 16, 17, 18, 19, 20, 21, 22, 23, 24, 25, 26, 27, 28, 29, 30, 31, 32, 33, 34, 35, 36, 37, 38, 39, 40, 41, 42, 43, 44, 45, 46, 47, 48] rfl rfl (wn := (W_X6_retract cI cS cII RA g5 R_q R_r N_k N_f N_t N_w N_l N_b g6 g7 g8 g9 g10 g11 g12 L_G L_l)) (jNew_sel rfl [some 0, some 1, some 2, some 3, some 4, some 5, none, none, some 6, some 7, some 8, some 9, some 10, some 11, some 12, some 13, some 14, some 15, some 16, some 17, some 18, some 19, some 20, some 21, some 22, some 23, some 24, some 25, some 26, some 27, some 28, some 29, some 30, some 31, some 32, some 33, some 34, some 35, some 36, some 37, some 38, some 39, some 40, some 41, some 42, some 43, some 44, some 45, some 46, none, none, none, none, none, none, none, none, none, none] (by decide +kernel) rfl) ?_
    refine jj_aload_n hJ dX6_retract_14 0 rfl rfl ?_
    refine jj_get hJ lay_X6 dX6_retract_15 0 1 rfl rfl (Nat.le_of_ble_eq_true rfl) kw_306 rfl ?_
    refine jj_iload_n hJ dX6_retract_18 1 rfl rfl ?_
    obtain ⟨⟨g14, g15, g16, g17⟩, h13, hF⟩ := ob hF
    refine jj_callN hJ (c_X4_takeBack l D cI cS cII (fun i => RA (i + 4)) N_k N_f N_t N_w N_l N_b a1 h13) dX6_retract_19 kw_427 ⟨Nat.le_of_ble_eq_true rfl, Nat.le_of_ble_eq_true rfl, rfl, rfl⟩ kw_426 kw_428 kw_429 1 rfl rfl rfl rfl (Nat.le_of_ble_eq_true rfl) [1, 2, 3, 4, 5] rfl rfl (wn := (W_X6_retract cI cS cII RA g5 R_q R_r N_k g14 g15 g16 N_l g17 g6 g7 g8 g9 g10 g11 g12 L_G L_l)) (jNew_sel rfl [none, some 0, some 1, some 2, some 3, some 4, none, none, none, none, none, none, none, none, none, none, none, none, none, none, none, none, none, none, none, none, none, none, none, none, none, none, none, none, none, none, none, none, none, none, none, none, none, none, none, none, none, none, none, none, none, none, none, none, none, none, none, none, none] (by decide +kernel) rfl) ?_
    refine jj_aload_n hJ dX6_retract_22 0 rfl rfl ?_
    refine jj_get hJ lay_X6 dX6_retract_23 0 6 rfl rfl (Nat.le_of_ble_eq_true rfl) kw_308 rfl ?_
    refine jj_aload_n hJ dX6_retract_26 0 rfl rfl ?_
    refine jj_get hJ lay_X6 dX6_retract_27 0 1 rfl rfl (Nat.le_of_ble_eq_true rfl) kw_306 rfl ?_
    obtain ⟨⟨g19, g20⟩, h18, hF⟩ := ob hF
    refine jj_callN hJ (c_X1_measure l D cI cS cII (fun i => RA (i + 4)) (fun i => RA (i + 11)) N_k g14 g15 g16 N_l g17 L_G L_l  h18) dX6_retract_30 kw_431 ⟨Nat.le_of_ble_eq_true rfl, Nat.le_of_ble_eq_true rfl, rfl, rfl⟩ kw_430 kw_432 kw_433 6 rfl rfl rfl rfl (Nat.le_of_ble_eq_true rfl) [1, 2, 3, 4, 5, 6, 7, 49, 50, 51, 52, 53, 54, 55, 56, 57, 58] rfl rfl (wn := (W_X6_retract cI cS cII RA g5 R_q R_r N_k g14 g15 g16 N_l g17 g6 g7 g8 g9 g10 g11 g12 g19 g20)) (jNew_sel rfl [none, some 0, some 1, some 2, some 3, some 4, some 5, some 6, none, none, none, none, none, none, none, none, none, none, none, none, none, none, none, none, none, none, none, none, none, none, none, none, none, none, none, none, none, none, none, none, none, none, none, none, none, none, none, none, none, some 7, some 8, some 9, some 10, some 11, some 12, some 13, some 14, some 15, some 16] (by decide +kernel) rfl) ?_
    refine jj_aload_n hJ dX6_retract_33 0 rfl rfl ?_
    refine jj_get hJ lay_X6 dX6_retract_34 0 1 rfl rfl (Nat.le_of_ble_eq_true rfl) kw_306 rfl ?_
    refine jj_getN hJ lay_X4 dX6_retract_37 1 5 rfl rfl (Nat.le_of_ble_eq_true rfl) kw_328 rfl ?_
    cases Option.some.inj hF
    exact jj_iret hJ dX6_retract_40
  · replace hF := ip c3 hF
    refine jj_iconst hJ dX6_retract_8 ic_m1 ?_
    cases Option.some.inj hF
    exact jj_iret hJ dX6_retract_9
