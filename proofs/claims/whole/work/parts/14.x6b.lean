theorem bp_m9 : (Int8.ofInt (-9)).toInt32 = (-9 : Int32) := by decide
theorem kw_347 : cwOk yX6_isK cX6_isK 1 (some .boolean) 1 := ⟨tb2 (i := 198) rfl, tb1 (i := 1) rfl, by decide, by decide, by decide +kernel⟩
theorem kw_348 : Cond.methodLink RX6 141 yX6_isK ∈ lw_tbl := tb2 (i := 196) rfl
theorem kw_349 : Cond.static yX6_isK ∈ lw_tbl := tb2 (i := 197) rfl
theorem kw_350 : ((RX6, 174, yX1_implies, "UniverseLevels") : String × Nat × MethodName × String) ∈ nestM := List.mem_of_getElem? (i := 22) rfl
theorem kw_351 : cwOk yX6_isX cX6_isX 1 (some .boolean) 1 := ⟨tb2 (i := 238) rfl, tb1 (i := 1) rfl, by decide, by decide, by decide +kernel⟩
theorem kw_352 : Cond.methodLink RX6 178 yX6_isX ∈ lw_tbl := tb2 (i := 236) rfl
theorem kw_353 : Cond.static yX6_isX ∈ lw_tbl := tb2 (i := 237) rfl
theorem kw_354 : Cond.methodLink RX6 181 Lib.Math.max.name ∈ lw_tbl := tb2 (i := 239) rfl
theorem kw_355 : Cond.methodLink RX6 138 yX6_areUnlike ∈ lw_tbl := tb2 (i := 192) rfl
theorem kw_356 : cwOk yX6_areUnlike cX6_areUnlike 3 (some .boolean) 2 := ⟨tb2 (i := 195) rfl, tb1 (i := 1) rfl, by decide, by decide, by decide +kernel⟩
theorem kw_357 : Cond.instanceMethod yX6_areUnlike ∈ lw_tbl := tb2 (i := 194) rfl
theorem kw_358 : Cond.selects RX6 yX6_areUnlike yX6_areUnlike ∈ lw_tbl := tsel (i := 30) (q := (⟨"UniverseLevels", "areUnlike", "(II)Z"⟩, 13)) rfl
theorem kw_359 : Cond.fieldLink RX6 44 (TX6 8).1 (TX6 8).2.1 (TX6 8).2.2.1 ∈ lw_tbl := tb2 (i := 82) rfl
theorem kw_360 : ((RX6, 186, yX4_weightTowards, "UniverseLevels") : String × Nat × MethodName × String) ∈ nestM := List.mem_of_getElem? (i := 12) rfl
theorem kw_361 : cwOk yX4_weightTowards cX4_weightTowards 3 (some .int) 2 := ⟨tb2 (i := 33) rfl, tb1 (i := 3) rfl, by decide, by decide, by decide +kernel⟩
theorem kw_362 : Cond.instanceMethod yX4_weightTowards ∈ lw_tbl := tb2 (i := 32) rfl
theorem kw_363 : Cond.selects RX4 yX4_weightTowards yX4_weightTowards ∈ lw_tbl := tsel (i := 12) (q := (⟨"UniverseLevels$State", "weightTowards", "(II)I"⟩, 6)) rfl
theorem kw_364 : ((RX6, 189, yX0_choose, "UniverseLevels") : String × Nat × MethodName × String) ∈ nestM := List.mem_of_getElem? (i := 23) rfl
theorem kw_365 : cwOk yX0_choose cX0_choose 9 (some .int) 5 := ⟨tb3 (i := 11) rfl, tb1 (i := 5) rfl, by decide, by decide, by decide +kernel⟩
theorem kw_366 : Cond.instanceMethod yX0_choose ∈ lw_tbl := tb3 (i := 10) rfl
theorem kw_367 : Cond.selects RX0 yX0_choose yX0_choose ∈ lw_tbl := tsel (i := 34) (q := (⟨"UniverseLevels$Against", "choose", "(LUniverseLevels$State;LUniverseLevels$Lengths;III)I"⟩, 4)) rfl
theorem kw_368 : ((RX6, 193, yX0_numberOf, "UniverseLevels") : String × Nat × MethodName × String) ∈ nestM := List.mem_of_getElem? (i := 25) rfl
theorem kw_369 : Cond.fieldLink RX6 51 (TX6 9).1 (TX6 9).2.1 (TX6 9).2.2.1 ∈ lw_tbl := tb2 (i := 83) rfl
theorem kw_370 : ((RX6, 196, (TX3 2).1, (TX3 2).2.1, (TX3 2).2.2.1, "UniverseLevels") : String × Nat × String × String × String × String) ∈ nestF := List.mem_of_getElem? (i := 23) rfl
theorem kw_371 : ((RX6, 197, yX3_add, "UniverseLevels") : String × Nat × MethodName × String) ∈ nestM := List.mem_of_getElem? (i := 26) rfl
theorem kw_372 : cwOk yX3_add cX3_add 3 none 2 := ⟨tb3 (i := 38) rfl, tb1 (i := 6) rfl, by decide, by decide, by decide +kernel⟩
theorem kw_373 : Cond.instanceMethod yX3_add ∈ lw_tbl := tb3 (i := 37) rfl
theorem kw_374 : Cond.selects RX3 yX3_add yX3_add ∈ lw_tbl := tsel (i := 39) (q := (⟨"UniverseLevels$Rows", "add", "(II)V"⟩, 3)) rfl
theorem kw_375 : ((RX6, 201, yX3_isShort, "UniverseLevels") : String × Nat × MethodName × String) ∈ nestM := List.mem_of_getElem? (i := 27) rfl
theorem kw_376 : cwOk yX3_isShort cX3_isShort 4 (some .boolean) 2 := ⟨tb3 (i := 50) rfl, tb1 (i := 6) rfl, by decide, by decide, by decide +kernel⟩
theorem kw_377 : Cond.instanceMethod yX3_isShort ∈ lw_tbl := tb3 (i := 49) rfl
theorem kw_378 : Cond.selects RX3 yX3_isShort yX3_isShort ∈ lw_tbl := tsel (i := 40) (q := (⟨"UniverseLevels$Rows", "isShort", "(ILUniverseLevels$Lengths;)Z"⟩, 3)) rfl
theorem kw_379 : ((RX6, 205, (TX3 0).1, (TX3 0).2.1, (TX3 0).2.2.1, "UniverseLevels") : String × Nat × String × String × String × String) ∈ nestF := List.mem_of_getElem? (i := 21) rfl
theorem kw_380 : ((RX6, 206, (TX3 1).1, (TX3 1).2.1, (TX3 1).2.2.1, "UniverseLevels") : String × Nat × String × String × String × String) ∈ nestF := List.mem_of_getElem? (i := 22) rfl
section
def W_X6_areUnlike (cI cS cII : ClassId) (RA : Nat → Nat) (R_u : Int32) (R_q : Int32) (R_r : Int32) (N_k : Nat → Int32) (N_f : Nat → Int32) (N_t : Nat → Int32) (N_w : Nat → Int32) (N_l : Int32) (N_b : Int32) : va_W := [((RA 0), .inr (6, [.ref (RA 1), .ref (RA 4), .ref (RA 9), .int R_u, .ref (RA 10), .int R_q, .ref (RA 11), .ref (RA 23), .ref (RA 24), .ref (RA 28), .ref (RA 31), .ref (RA 34), .int R_r])), ((RA 4), .inr (4, [.ref (RA 5), .ref (RA 6), .ref (RA 7), .ref (RA 8), .int N_l, .int N_b])), ((RA 5), .inl (cI, 10, .inl N_k)), ((RA 6), .inl (cI, 16, .inl N_f)), ((RA 7), .inl (cI, 16, .inl N_t)), ((RA 8), .inl (cI, 16, .inl N_w))]
abbrev Rm_X6_areUnlike : Room := { frames := 1, cells := 0, slots := 0, locals := 21 }
variable {l : Launch} {D : va_G} {cI cS cII : ClassId} {RA : Nat → Nat} {A : Nat → Prop} {J : jT}
variable {z_r : Int32}
def p_X6_areUnlike (N_l : Int32) (a1 : Int32) (a2 : Int32) : Option (Int32) := (p_X6_isLevel N_l a1).bind fun r2 => if r2 = 0 then (some 0) else ((p_X6_isLevel N_l a2).bind fun r5 => if r5 = 0 then (some 0) else (if a1 = a2 then (some 0) else (some 1)))
end
set_option maxRecDepth 100000 in
theorem c_X6_areUnlike (l : Launch) (D : va_G) (cI cS cII : ClassId) (RA : Nat → Nat) (R_u : Int32) (R_q : Int32) (R_r : Int32) (N_k : Nat → Int32) (N_f : Nat → Int32) (N_t : Nat → Int32) (N_w : Nat → Int32) (N_l : Int32) (N_b : Int32) (a1 : Int32) (a2 : Int32) {z_r : Int32} (hF : p_X6_areUnlike N_l a1 a2 = some z_r) : MJ l yX6_areUnlike cX6_areUnlike 3 (some .boolean) Rm_X6_areUnlike D (tysU cI cS cII) [.ref (RA 0), .int a1, .int a2] (W_X6_areUnlike cI cS cII RA R_u R_q R_r N_k N_f N_t N_w N_l N_b) (some z_r) (W_X6_areUnlike cI cS cII RA R_u R_q R_r N_k N_f N_t N_w N_l N_b) := by
  refine mj_of (own := RX6) (by decide) rfl (Nat.le_of_ble_eq_true rfl) (fun J hJ => ?_)
  show J (W_X6_areUnlike cI cS cII RA R_u R_q R_r N_k N_f N_t N_w N_l N_b) 0 [(0, .ref (RA 0)), (1, .int a1), (2, .int a2)] []
  unfold p_X6_areUnlike at hF
  refine jj_aload_n hJ dX6_areUnlike_0 0 rfl rfl ?_
  refine jj_iload_n hJ dX6_areUnlike_1 1 rfl rfl ?_
  obtain ⟨r2, h1, hF⟩ := ob hF
  refine jj_callV0 hJ (c_X6_isLevel l D cI cS cII RA R_u R_q R_r N_k N_f N_t N_w N_l N_b a1 h1) dX6_areUnlike_2 kw_312 ⟨Nat.le_of_ble_eq_true rfl, Nat.le_of_ble_eq_true rfl, rfl, rfl⟩ kw_311 kw_313 kw_314 0 rfl rfl rfl rfl (Nat.le_of_ble_eq_true rfl) [0, 1, 2, 3, 4, 5] rfl rfl ?_
  refine jj_if_eq hJ 25 dX6_areUnlike_5 rfl (fun c3 => ?_) (fun c3 => ?_)
  · replace hF := ip c3 hF
    refine jj_iconst hJ dX6_areUnlike_25 ic_0 ?_
    cases Option.some.inj hF
    exact jj_zret hJ (Or.inl rfl) dX6_areUnlike_26
  · replace hF := iq c3 hF
    refine jj_aload_n hJ dX6_areUnlike_8 0 rfl rfl ?_
    refine jj_iload_n hJ dX6_areUnlike_9 2 rfl rfl ?_
    obtain ⟨r5, h4, hF⟩ := ob hF
    refine jj_callV0 hJ (c_X6_isLevel l D cI cS cII RA R_u R_q R_r N_k N_f N_t N_w N_l N_b a2 h4) dX6_areUnlike_10 kw_312 ⟨Nat.le_of_ble_eq_true rfl, Nat.le_of_ble_eq_true rfl, rfl, rfl⟩ kw_311 kw_313 kw_314 0 rfl rfl rfl rfl (Nat.le_of_ble_eq_true rfl) [0, 1, 2, 3, 4, 5] rfl rfl ?_
    refine jj_if_eq hJ 25 dX6_areUnlike_13 rfl (fun c6 => ?_) (fun c6 => ?_)
    · replace hF := ip c6 hF
      refine jj_iconst hJ dX6_areUnlike_25 ic_0 ?_
      cases Option.some.inj hF
      exact jj_zret hJ (Or.inl rfl) dX6_areUnlike_26
    · replace hF := iq c6 hF
      refine jj_iload_n hJ dX6_areUnlike_16 1 rfl rfl ?_
      refine jj_iload_n hJ dX6_areUnlike_17 2 rfl rfl ?_
      refine jj_icmp_eq hJ 25 dX6_areUnlike_18 rfl (fun c7 => ?_) (fun c7 => ?_)
      · replace hF := ip c7 hF
        refine jj_iconst hJ dX6_areUnlike_25 ic_0 ?_
        cases Option.some.inj hF
        exact jj_zret hJ (Or.inl rfl) dX6_areUnlike_26
      · replace hF := iq c7 hF
        refine jj_iconst hJ dX6_areUnlike_21 ic_1 ?_
        refine jj_goto hJ 26 dX6_areUnlike_22 rfl ?_
        cases Option.some.inj hF
        exact jj_zret hJ (Or.inr rfl) dX6_areUnlike_26
section
abbrev Rm_X6_isK : Room := { frames := 0, cells := 0, slots := 0, locals := 0 }
variable {l : Launch} {D : va_G} {cI cS cII : ClassId}  {A : Nat → Prop} {J : jT}
variable {z_r : Int32}
def p_X6_isK (a0 : Int32) : Option (Int32) := if a0 < ((-9)) then (some 0) else (if 9 < a0 then (some 0) else (some 1))
end
set_option maxRecDepth 100000 in
theorem c_X6_isK (l : Launch) (D : va_G) (cI cS cII : ClassId)   (a0 : Int32) {z_r : Int32} (hF : p_X6_isK a0 = some z_r) : MJ l yX6_isK cX6_isK 1 (some .boolean) Rm_X6_isK D (tysU cI cS cII) [.int a0] ([] : va_W) (some z_r) ([] : va_W) := by
  refine mj_of (own := RX6) (by decide) rfl (Nat.le_of_ble_eq_true rfl) (fun J hJ => ?_)
  show J ([] : va_W) 0 [(0, .int a0)] []
  unfold p_X6_isK at hF
  refine jj_iload_n hJ dX6_isK_0 0 rfl rfl ?_
  refine jj_bipush hJ dX6_isK_1 bp_m9 ?_
  refine jj_icmp_lt hJ 16 dX6_isK_3 rfl (fun c1 => ?_) (fun c1 => ?_)
  · replace hF := ip c1 hF
    refine jj_iconst hJ dX6_isK_16 ic_0 ?_
    cases Option.some.inj hF
    exact jj_zret hJ (Or.inl rfl) dX6_isK_17
  · replace hF := iq c1 hF
    refine jj_iload_n hJ dX6_isK_6 0 rfl rfl ?_
    refine jj_bipush hJ dX6_isK_7 bp_9 ?_
    refine jj_icmp_gt hJ 16 dX6_isK_9 rfl (fun c2 => ?_) (fun c2 => ?_)
    · replace hF := ip c2 hF
      refine jj_iconst hJ dX6_isK_16 ic_0 ?_
      cases Option.some.inj hF
      exact jj_zret hJ (Or.inl rfl) dX6_isK_17
    · replace hF := iq c2 hF
      refine jj_iconst hJ dX6_isK_12 ic_1 ?_
      refine jj_goto hJ 17 dX6_isK_13 rfl ?_
      cases Option.some.inj hF
      exact jj_zret hJ (Or.inr rfl) dX6_isK_17
section
abbrev Rm_X6_isX : Room := { frames := 0, cells := 0, slots := 0, locals := 0 }
variable {l : Launch} {D : va_G} {cI cS cII : ClassId}  {A : Nat → Prop} {J : jT}
variable {z_r : Int32}
def p_X6_isX (a0 : Int32) : Option (Int32) := if a0 < 0 then (some 0) else (if 99 < a0 then (some 0) else (some 1))
end
set_option maxRecDepth 100000 in
theorem c_X6_isX (l : Launch) (D : va_G) (cI cS cII : ClassId)   (a0 : Int32) {z_r : Int32} (hF : p_X6_isX a0 = some z_r) : MJ l yX6_isX cX6_isX 1 (some .boolean) Rm_X6_isX D (tysU cI cS cII) [.int a0] ([] : va_W) (some z_r) ([] : va_W) := by
  refine mj_of (own := RX6) (by decide) rfl (Nat.le_of_ble_eq_true rfl) (fun J hJ => ?_)
  show J ([] : va_W) 0 [(0, .int a0)] []
  unfold p_X6_isX at hF
  refine jj_iload_n hJ dX6_isX_0 0 rfl rfl ?_
  refine jj_if_lt hJ 14 dX6_isX_1 rfl (fun c1 => ?_) (fun c1 => ?_)
  · replace hF := ip c1 hF
    refine jj_iconst hJ dX6_isX_14 ic_0 ?_
    cases Option.some.inj hF
    exact jj_zret hJ (Or.inl rfl) dX6_isX_15
  · replace hF := iq c1 hF
    refine jj_iload_n hJ dX6_isX_4 0 rfl rfl ?_
    refine jj_bipush hJ dX6_isX_5 bp_99 ?_
    refine jj_icmp_gt hJ 14 dX6_isX_7 rfl (fun c2 => ?_) (fun c2 => ?_)
    · replace hF := ip c2 hF
      refine jj_iconst hJ dX6_isX_14 ic_0 ?_
      cases Option.some.inj hF
      exact jj_zret hJ (Or.inl rfl) dX6_isX_15
    · replace hF := iq c2 hF
      refine jj_iconst hJ dX6_isX_10 ic_1 ?_
      refine jj_goto hJ 15 dX6_isX_11 rfl ?_
      cases Option.some.inj hF
      exact jj_zret hJ (Or.inr rfl) dX6_isX_15
section
def W_X6_follows (cI cS cII : ClassId) (RA : Nat → Nat) (R_u : Int32) (R_q : Int32) (R_r : Int32) (N_k : Nat → Int32) (N_f : Nat → Int32) (N_t : Nat → Int32) (N_w : Nat → Int32) (N_l : Int32) (N_b : Int32) (L_G : Nat → Nat → Int32) (L_l : Int32) : va_W := ([((RA 0), .inr (6, [.ref (RA 1), .ref (RA 4), .ref (RA 9), .int R_u, .ref (RA 10), .int R_q, .ref (RA 11), .ref (RA 23), .ref (RA 24), .ref (RA 28), .ref (RA 31), .ref (RA 34), .int R_r])), ((RA 4), .inr (4, [.ref (RA 5), .ref (RA 6), .ref (RA 7), .ref (RA 8), .int N_l, .int N_b])), ((RA 5), .inl (cI, 10, .inl N_k)), ((RA 6), .inl (cI, 16, .inl N_f)), ((RA 7), .inl (cI, 16, .inl N_t)), ((RA 8), .inl (cI, 16, .inl N_w)), ((RA 11), .inr (1, [.ref (RA 12), .int L_l])), ((RA 12), .inl (cII, 10, .inr (.inr (.inr (.inr (fun i => some (RA (i + 13))))))))] ++ rw10 cI (fun i => RA (i + 13)) L_G)
abbrev Rm_X6_follows : Room := { frames := 2, cells := 0, slots := 0, locals := 45 }
variable {l : Launch} {D : va_G} {cI cS cII : ClassId} {RA : Nat → Nat} {A : Nat → Prop} {J : jT}
variable {z_r : Int32}
def p_X6_follows (N_l : Int32) (L_G : Nat → Nat → Int32) (a1 : Int32) (a2 : Int32) (a3 : Int32) : Option (Int32) := (p_X6_isLevel N_l a1).bind fun r2 => if r2 = 0 then (some ((-1))) else ((p_X6_isK a2).bind fun r5 => if r5 = 0 then (some ((-1))) else ((p_X6_isLevel N_l a3).bind fun r8 => if r8 = 0 then (some ((-1))) else ((p_X1_implies L_G a1 a2 a3).bind fun r11 => if r11 = 0 then (some 0) else (some 1))))
end
set_option maxRecDepth 100000 in
theorem c_X6_follows (l : Launch) (D : va_G) (cI cS cII : ClassId) (RA : Nat → Nat) (R_u : Int32) (R_q : Int32) (R_r : Int32) (N_k : Nat → Int32) (N_f : Nat → Int32) (N_t : Nat → Int32) (N_w : Nat → Int32) (N_l : Int32) (N_b : Int32) (L_G : Nat → Nat → Int32) (L_l : Int32) (a1 : Int32) (a2 : Int32) (a3 : Int32) {z_r : Int32} (hF : p_X6_follows N_l L_G a1 a2 a3 = some z_r) : MJ l yX6_follows cX6_follows 4 (some .int) Rm_X6_follows D (tysU cI cS cII) [.ref (RA 0), .int a1, .int a2, .int a3] (W_X6_follows cI cS cII RA R_u R_q R_r N_k N_f N_t N_w N_l N_b L_G L_l) (some z_r) (W_X6_follows cI cS cII RA R_u R_q R_r N_k N_f N_t N_w N_l N_b L_G L_l) := by
  refine mj_of (own := RX6) (by decide) rfl (Nat.le_of_ble_eq_true rfl) (fun J hJ => ?_)
  show J (W_X6_follows cI cS cII RA R_u R_q R_r N_k N_f N_t N_w N_l N_b L_G L_l) 0 [(0, .ref (RA 0)), (1, .int a1), (2, .int a2), (3, .int a3)] []
  unfold p_X6_follows at hF
  refine jj_aload_n hJ dX6_follows_0 0 rfl rfl ?_
  refine jj_iload_n hJ dX6_follows_1 1 rfl rfl ?_
  obtain ⟨r2, h1, hF⟩ := ob hF
  refine jj_callV0 hJ (c_X6_isLevel l D cI cS cII RA R_u R_q R_r N_k N_f N_t N_w N_l N_b a1 h1) dX6_follows_2 kw_312 ⟨Nat.le_of_ble_eq_true rfl, Nat.le_of_ble_eq_true rfl, rfl, rfl⟩ kw_311 kw_313 kw_314 0 rfl rfl rfl rfl (Nat.le_of_ble_eq_true rfl) [0, 1, 2, 3, 4, 5] rfl rfl ?_
  refine jj_if_eq hJ 23 dX6_follows_5 rfl (fun c3 => ?_) (fun c3 => ?_)
  · replace hF := ip c3 hF
    refine jj_iconst hJ dX6_follows_23 ic_m1 ?_
    cases Option.some.inj hF
    exact jj_iret hJ dX6_follows_24
  · replace hF := iq c3 hF
    refine jj_iload_n hJ dX6_follows_8 2 rfl rfl ?_
    obtain ⟨r5, h4, hF⟩ := ob hF
    refine jj_callS0 hJ (c_X6_isK l D cI cS cII   a2 h4) dX6_follows_9 kw_347 ⟨Nat.le_of_ble_eq_true rfl, Nat.le_of_ble_eq_true rfl, rfl, rfl⟩ kw_348 kw_349 rfl rfl (Nat.le_of_ble_eq_true rfl) [] rfl rfl ?_
    refine jj_if_eq hJ 23 dX6_follows_12 rfl (fun c6 => ?_) (fun c6 => ?_)
    · replace hF := ip c6 hF
      refine jj_iconst hJ dX6_follows_23 ic_m1 ?_
      cases Option.some.inj hF
      exact jj_iret hJ dX6_follows_24
    · replace hF := iq c6 hF
      refine jj_aload_n hJ dX6_follows_15 0 rfl rfl ?_
      refine jj_iload_n hJ dX6_follows_16 3 rfl rfl ?_
      obtain ⟨r8, h7, hF⟩ := ob hF
      refine jj_callV0 hJ (c_X6_isLevel l D cI cS cII RA R_u R_q R_r N_k N_f N_t N_w N_l N_b a3 h7) dX6_follows_17 kw_312 ⟨Nat.le_of_ble_eq_true rfl, Nat.le_of_ble_eq_true rfl, rfl, rfl⟩ kw_311 kw_313 kw_314 0 rfl rfl rfl rfl (Nat.le_of_ble_eq_true rfl) [0, 1, 2, 3, 4, 5] rfl rfl ?_
      refine jj_if_ne hJ 25 dX6_follows_20 rfl (fun c9 => ?_) (fun c9 => ?_)
      · replace hF := iq c9 hF
        refine jj_aload_n hJ dX6_follows_25 0 rfl rfl ?_
        refine jj_get hJ lay_X6 dX6_follows_26 0 6 rfl rfl (Nat.le_of_ble_eq_true rfl) kw_308 rfl ?_
        refine jj_iload_n hJ dX6_follows_29 1 rfl rfl ?_
        refine jj_iload_n hJ dX6_follows_30 2 rfl rfl ?_
        refine jj_iload_n hJ dX6_follows_31 3 rfl rfl ?_
        obtain ⟨r11, h10, hF⟩ := ob hF
        refine jj_callN0 hJ (c_X1_implies l D cI cS cII (fun i => RA (i + 11)) L_G L_l a1 a2 a3 h10) dX6_follows_32 kw_42 ⟨Nat.le_of_ble_eq_true rfl, Nat.le_of_ble_eq_true rfl, rfl, rfl⟩ kw_350 kw_43 kw_44 6 rfl rfl rfl rfl (Nat.le_of_ble_eq_true rfl) [6, 7, 8, 9, 10, 11, 12, 13, 14, 15, 16, 17] rfl rfl ?_
        refine jj_if_eq hJ 42 dX6_follows_35 rfl (fun c12 => ?_) (fun c12 => ?_)
        · replace hF := ip c12 hF
          refine jj_iconst hJ dX6_follows_42 ic_0 ?_
          cases Option.some.inj hF
          exact jj_iret hJ dX6_follows_43
        · replace hF := iq c12 hF
          refine jj_iconst hJ dX6_follows_38 ic_1 ?_
          refine jj_goto hJ 43 dX6_follows_39 rfl ?_
          cases Option.some.inj hF
          exact jj_iret hJ dX6_follows_43
      · replace hF := ip c9 hF
        refine jj_iconst hJ dX6_follows_23 ic_m1 ?_
        cases Option.some.inj hF
        exact jj_iret hJ dX6_follows_24
section
def W_X6_raised (cI cS cII : ClassId) (RA : Nat → Nat) (R_u : Int32) (R_q : Int32) (R_r : Int32) (N_k : Nat → Int32) (N_f : Nat → Int32) (N_t : Nat → Int32) (N_w : Nat → Int32) (N_l : Int32) (N_b : Int32) (L_G : Nat → Nat → Int32) (L_l : Int32) : va_W := ([((RA 0), .inr (6, [.ref (RA 1), .ref (RA 4), .ref (RA 9), .int R_u, .ref (RA 10), .int R_q, .ref (RA 11), .ref (RA 23), .ref (RA 24), .ref (RA 28), .ref (RA 31), .ref (RA 34), .int R_r])), ((RA 4), .inr (4, [.ref (RA 5), .ref (RA 6), .ref (RA 7), .ref (RA 8), .int N_l, .int N_b])), ((RA 5), .inl (cI, 10, .inl N_k)), ((RA 6), .inl (cI, 16, .inl N_f)), ((RA 7), .inl (cI, 16, .inl N_t)), ((RA 8), .inl (cI, 16, .inl N_w)), ((RA 11), .inr (1, [.ref (RA 12), .int L_l])), ((RA 12), .inl (cII, 10, .inr (.inr (.inr (.inr (fun i => some (RA (i + 13))))))))] ++ rw10 cI (fun i => RA (i + 13)) L_G)
abbrev Rm_X6_raised : Room := { frames := 2, cells := 0, slots := 0, locals := 44 }
variable {l : Launch} {D : va_G} {cI cS cII : ClassId} {RA : Nat → Nat} {A : Nat → Prop} {J : jT}
variable {z_r : Int32}
def p_X6_raised (N_l : Int32) (L_G : Nat → Nat → Int32) (L_l : Int32) (a1 : Int32) (a2 : Int32) (a3 : Int32) : Option (Int32) := (p_X6_isLevel N_l a1).bind fun r2 => if r2 = 0 then (some ((-1))) else ((p_X6_isX a2).bind fun r5 => if r5 = 0 then (some ((-1))) else ((p_X6_isLevel N_l a3).bind fun r8 => if r8 = 0 then (some ((-1))) else ((p_X1_valueOf L_G L_l a3).bind fun r11 => (p_X1_leads L_G a1 a3).bind fun r13 => if r13 = 0 then (some r11) else ((ix 10 a1).bind fun j15 => (rd (L_G j15) 10 a3).bind fun x17 => some (if r11 < (a2 + x17) then (a2 + x17) else r11)))))
end
set_option maxRecDepth 100000 in
theorem c_X6_raised (l : Launch) (D : va_G) (cI cS cII : ClassId) (RA : Nat → Nat) (R_u : Int32) (R_q : Int32) (R_r : Int32) (N_k : Nat → Int32) (N_f : Nat → Int32) (N_t : Nat → Int32) (N_w : Nat → Int32) (N_l : Int32) (N_b : Int32) (L_G : Nat → Nat → Int32) (L_l : Int32) (a1 : Int32) (a2 : Int32) (a3 : Int32) {z_r : Int32} (hF : p_X6_raised N_l L_G L_l a1 a2 a3 = some z_r) : MJ l yX6_raised cX6_raised 5 (some .int) Rm_X6_raised D (tysU cI cS cII) [.ref (RA 0), .int a1, .int a2, .int a3] (W_X6_raised cI cS cII RA R_u R_q R_r N_k N_f N_t N_w N_l N_b L_G L_l) (some z_r) (W_X6_raised cI cS cII RA R_u R_q R_r N_k N_f N_t N_w N_l N_b L_G L_l) := by
  refine mj_of (own := RX6) (by decide) rfl (Nat.le_of_ble_eq_true rfl) (fun J hJ => ?_)
  show J (W_X6_raised cI cS cII RA R_u R_q R_r N_k N_f N_t N_w N_l N_b L_G L_l) 0 [(0, .ref (RA 0)), (1, .int a1), (2, .int a2), (3, .int a3)] []
  unfold p_X6_raised at hF
  refine jj_aload_n hJ dX6_raised_0 0 rfl rfl ?_
  refine jj_iload_n hJ dX6_raised_1 1 rfl rfl ?_
  obtain ⟨r2, h1, hF⟩ := ob hF
  refine jj_callV0 hJ (c_X6_isLevel l D cI cS cII RA R_u R_q R_r N_k N_f N_t N_w N_l N_b a1 h1) dX6_raised_2 kw_312 ⟨Nat.le_of_ble_eq_true rfl, Nat.le_of_ble_eq_true rfl, rfl, rfl⟩ kw_311 kw_313 kw_314 0 rfl rfl rfl rfl (Nat.le_of_ble_eq_true rfl) [0, 1, 2, 3, 4, 5] rfl rfl ?_
  refine jj_if_eq hJ 23 dX6_raised_5 rfl (fun c3 => ?_) (fun c3 => ?_)
  · replace hF := ip c3 hF
    refine jj_iconst hJ dX6_raised_23 ic_m1 ?_
    cases Option.some.inj hF
    exact jj_iret hJ dX6_raised_24
  · replace hF := iq c3 hF
    refine jj_iload_n hJ dX6_raised_8 2 rfl rfl ?_
    obtain ⟨r5, h4, hF⟩ := ob hF
    refine jj_callS0 hJ (c_X6_isX l D cI cS cII   a2 h4) dX6_raised_9 kw_351 ⟨Nat.le_of_ble_eq_true rfl, Nat.le_of_ble_eq_true rfl, rfl, rfl⟩ kw_352 kw_353 rfl rfl (Nat.le_of_ble_eq_true rfl) [] rfl rfl ?_
    refine jj_if_eq hJ 23 dX6_raised_12 rfl (fun c6 => ?_) (fun c6 => ?_)
    · replace hF := ip c6 hF
      refine jj_iconst hJ dX6_raised_23 ic_m1 ?_
      cases Option.some.inj hF
      exact jj_iret hJ dX6_raised_24
    · replace hF := iq c6 hF
      refine jj_aload_n hJ dX6_raised_15 0 rfl rfl ?_
      refine jj_iload_n hJ dX6_raised_16 3 rfl rfl ?_
      obtain ⟨r8, h7, hF⟩ := ob hF
      refine jj_callV0 hJ (c_X6_isLevel l D cI cS cII RA R_u R_q R_r N_k N_f N_t N_w N_l N_b a3 h7) dX6_raised_17 kw_312 ⟨Nat.le_of_ble_eq_true rfl, Nat.le_of_ble_eq_true rfl, rfl, rfl⟩ kw_311 kw_313 kw_314 0 rfl rfl rfl rfl (Nat.le_of_ble_eq_true rfl) [0, 1, 2, 3, 4, 5] rfl rfl ?_
      refine jj_if_ne hJ 25 dX6_raised_20 rfl (fun c9 => ?_) (fun c9 => ?_)
      · replace hF := iq c9 hF
        refine jj_aload_n hJ dX6_raised_25 0 rfl rfl ?_
        refine jj_get hJ lay_X6 dX6_raised_26 0 6 rfl rfl (Nat.le_of_ble_eq_true rfl) kw_308 rfl ?_
        refine jj_iload_n hJ dX6_raised_29 3 rfl rfl ?_
        obtain ⟨r11, h10, hF⟩ := ob hF
        refine jj_callN0 hJ (c_X1_valueOf l D cI cS cII (fun i => RA (i + 11)) L_G L_l a3 h10) dX6_raised_30 kw_35 ⟨Nat.le_of_ble_eq_true rfl, Nat.le_of_ble_eq_true rfl, rfl, rfl⟩ kw_309 kw_36 kw_37 6 rfl rfl rfl rfl (Nat.le_of_ble_eq_true rfl) [6, 7, 8, 9, 10, 11, 12, 13, 14, 15, 16, 17] rfl rfl ?_
        refine jj_istore hJ dX6_raised_33 (Nat.le_of_ble_eq_true rfl) (lv' := [(4, .int r11), (0, .ref (RA 0)), (1, .int a1), (2, .int a2), (3, .int a3)]) rfl ?_
        refine jj_aload_n hJ dX6_raised_35 1 rfl rfl ?_
        refine jj_get hJ lay_X6 dX6_raised_36 0 6 rfl rfl (Nat.le_of_ble_eq_true rfl) kw_308 rfl ?_
        refine jj_iload_n hJ dX6_raised_39 2 rfl rfl ?_
        refine jj_iload_n hJ dX6_raised_40 4 rfl rfl ?_
        obtain ⟨r13, h12, hF⟩ := ob hF
        refine jj_callN0 hJ (c_X1_leads l D cI cS cII (fun i => RA (i + 11)) L_G L_l a1 a3 h12) dX6_raised_41 kw_27 ⟨Nat.le_of_ble_eq_true rfl, Nat.le_of_ble_eq_true rfl, rfl, rfl⟩ kw_334 kw_28 kw_29 6 rfl rfl rfl rfl (Nat.le_of_ble_eq_true rfl) [6, 7, 8, 9, 10, 11, 12, 13, 14, 15, 16, 17] rfl rfl ?_
        refine jj_if_eq hJ 68 dX6_raised_44 rfl (fun c14 => ?_) (fun c14 => ?_)
        · replace hF := ip c14 hF
          refine jj_iload hJ dX6_raised_68 0 rfl ?_
          cases Option.some.inj hF
          exact jj_iret hJ dX6_raised_70
        · replace hF := iq c14 hF
          refine jj_iload hJ dX6_raised_47 0 rfl ?_
          refine jj_iload_n hJ dX6_raised_49 3 rfl rfl ?_
          refine jj_aload_n hJ dX6_raised_50 1 rfl rfl ?_
          refine jj_get hJ lay_X6 dX6_raised_51 0 6 rfl rfl (Nat.le_of_ble_eq_true rfl) kw_308 rfl ?_
          refine jj_getN hJ lay_X1 dX6_raised_54 6 0 rfl rfl (Nat.le_of_ble_eq_true rfl) kw_310 rfl ?_
          refine jj_iload_n hJ dX6_raised_57 2 rfl rfl ?_
          obtain ⟨j15, h16, hF⟩ := ob hF
          refine jj_aald hJ dX6_raised_58 7 2 rfl rfl rfl (ix_some h16).1 (congrArg (fun i => some (RA (i + 13))) (ix_some h16).2.1) ?_
          refine jj_iload_n hJ dX6_raised_59 4 rfl rfl ?_
          obtain ⟨x17, h18, hF⟩ := ob hF
          refine jj_iald hJ dX6_raised_60 (8 + j15) 0 (rw10_get _ (ix_some h16).2.2) rfl h18 ?_
          refine jj_iadd hJ dX6_raised_61 ?_
          refine jj_max hJ dX6_raised_62 kw_354 kw_31 kw_32 kw_33 (Nat.le_of_ble_eq_true rfl) (Nat.le_of_ble_eq_true rfl) ?_
          refine jj_goto hJ 70 dX6_raised_65 rfl ?_
          cases Option.some.inj hF
          exact jj_iret hJ dX6_raised_70
      · replace hF := ip c9 hF
        refine jj_iconst hJ dX6_raised_23 ic_m1 ?_
        cases Option.some.inj hF
        exact jj_iret hJ dX6_raised_24
section
def W_X6_top (cI cS cII : ClassId) (RA : Nat → Nat) (R_u : Int32) (R_q : Int32) (R_r : Int32) (N_k : Nat → Int32) (N_f : Nat → Int32) (N_t : Nat → Int32) (N_w : Nat → Int32) (N_l : Int32) (N_b : Int32) (L_G : Nat → Nat → Int32) (L_l : Int32) : va_W := ([((RA 0), .inr (6, [.ref (RA 1), .ref (RA 4), .ref (RA 9), .int R_u, .ref (RA 10), .int R_q, .ref (RA 11), .ref (RA 23), .ref (RA 24), .ref (RA 28), .ref (RA 31), .ref (RA 34), .int R_r])), ((RA 4), .inr (4, [.ref (RA 5), .ref (RA 6), .ref (RA 7), .ref (RA 8), .int N_l, .int N_b])), ((RA 5), .inl (cI, 10, .inl N_k)), ((RA 6), .inl (cI, 16, .inl N_f)), ((RA 7), .inl (cI, 16, .inl N_t)), ((RA 8), .inl (cI, 16, .inl N_w)), ((RA 11), .inr (1, [.ref (RA 12), .int L_l])), ((RA 12), .inl (cII, 10, .inr (.inr (.inr (.inr (fun i => some (RA (i + 13))))))))] ++ rw10 cI (fun i => RA (i + 13)) L_G)
abbrev Rm_X6_top : Room := { frames := 2, cells := 0, slots := 0, locals := 44 }
variable {l : Launch} {D : va_G} {cI cS cII : ClassId} {RA : Nat → Nat} {A : Nat → Prop} {J : jT}
variable {z_r : Int32}
def p_X6_top (N_l : Int32) (L_G : Nat → Nat → Int32) (L_l : Int32) (a1 : Int32) (a2 : Int32) (a3 : Int32) : Option (Int32) := (p_X6_isLevel N_l a1).bind fun r2 => if r2 = 0 then (some ((-1))) else ((p_X6_isX a2).bind fun r5 => if r5 = 0 then (some ((-1))) else ((p_X6_isLevel N_l a3).bind fun r8 => if r8 = 0 then (some ((-1))) else ((p_X1_leads L_G a3 a1).bind fun r11 => if r11 = 0 then (some ((-4))) else ((p_X1_valueOf L_G L_l a1).bind fun r14 => if r14 ≤ a2 then ((ix 10 a3).bind fun j16 => (rd (L_G j16) 10 a1).bind fun x18 => some ((a2 - x18) + 1000)) else (some ((-4)))))))
end
set_option maxRecDepth 100000 in
theorem c_X6_top (l : Launch) (D : va_G) (cI cS cII : ClassId) (RA : Nat → Nat) (R_u : Int32) (R_q : Int32) (R_r : Int32) (N_k : Nat → Int32) (N_f : Nat → Int32) (N_t : Nat → Int32) (N_w : Nat → Int32) (N_l : Int32) (N_b : Int32) (L_G : Nat → Nat → Int32) (L_l : Int32) (a1 : Int32) (a2 : Int32) (a3 : Int32) {z_r : Int32} (hF : p_X6_top N_l L_G L_l a1 a2 a3 = some z_r) : MJ l yX6_top cX6_top 4 (some .int) Rm_X6_top D (tysU cI cS cII) [.ref (RA 0), .int a1, .int a2, .int a3] (W_X6_top cI cS cII RA R_u R_q R_r N_k N_f N_t N_w N_l N_b L_G L_l) (some z_r) (W_X6_top cI cS cII RA R_u R_q R_r N_k N_f N_t N_w N_l N_b L_G L_l) := by
  refine mj_of (own := RX6) (by decide) rfl (Nat.le_of_ble_eq_true rfl) (fun J hJ => ?_)
  show J (W_X6_top cI cS cII RA R_u R_q R_r N_k N_f N_t N_w N_l N_b L_G L_l) 0 [(0, .ref (RA 0)), (1, .int a1), (2, .int a2), (3, .int a3)] []
  unfold p_X6_top at hF
  refine jj_aload_n hJ dX6_top_0 0 rfl rfl ?_
  refine jj_iload_n hJ dX6_top_1 1 rfl rfl ?_
  obtain ⟨r2, h1, hF⟩ := ob hF
  refine jj_callV0 hJ (c_X6_isLevel l D cI cS cII RA R_u R_q R_r N_k N_f N_t N_w N_l N_b a1 h1) dX6_top_2 kw_312 ⟨Nat.le_of_ble_eq_true rfl, Nat.le_of_ble_eq_true rfl, rfl, rfl⟩ kw_311 kw_313 kw_314 0 rfl rfl rfl rfl (Nat.le_of_ble_eq_true rfl) [0, 1, 2, 3, 4, 5] rfl rfl ?_
  refine jj_if_eq hJ 23 dX6_top_5 rfl (fun c3 => ?_) (fun c3 => ?_)
  · replace hF := ip c3 hF
    refine jj_iconst hJ dX6_top_23 ic_m1 ?_
    cases Option.some.inj hF
    exact jj_iret hJ dX6_top_24
  · replace hF := iq c3 hF
    refine jj_iload_n hJ dX6_top_8 2 rfl rfl ?_
    obtain ⟨r5, h4, hF⟩ := ob hF
    refine jj_callS0 hJ (c_X6_isX l D cI cS cII   a2 h4) dX6_top_9 kw_351 ⟨Nat.le_of_ble_eq_true rfl, Nat.le_of_ble_eq_true rfl, rfl, rfl⟩ kw_352 kw_353 rfl rfl (Nat.le_of_ble_eq_true rfl) [] rfl rfl ?_
    refine jj_if_eq hJ 23 dX6_top_12 rfl (fun c6 => ?_) (fun c6 => ?_)
    · replace hF := ip c6 hF
      refine jj_iconst hJ dX6_top_23 ic_m1 ?_
      cases Option.some.inj hF
      exact jj_iret hJ dX6_top_24
    · replace hF := iq c6 hF
      refine jj_aload_n hJ dX6_top_15 0 rfl rfl ?_
      refine jj_iload_n hJ dX6_top_16 3 rfl rfl ?_
      obtain ⟨r8, h7, hF⟩ := ob hF
      refine jj_callV0 hJ (c_X6_isLevel l D cI cS cII RA R_u R_q R_r N_k N_f N_t N_w N_l N_b a3 h7) dX6_top_17 kw_312 ⟨Nat.le_of_ble_eq_true rfl, Nat.le_of_ble_eq_true rfl, rfl, rfl⟩ kw_311 kw_313 kw_314 0 rfl rfl rfl rfl (Nat.le_of_ble_eq_true rfl) [0, 1, 2, 3, 4, 5] rfl rfl ?_
      refine jj_if_ne hJ 25 dX6_top_20 rfl (fun c9 => ?_) (fun c9 => ?_)
      · replace hF := iq c9 hF
        refine jj_aload_n hJ dX6_top_25 0 rfl rfl ?_
        refine jj_get hJ lay_X6 dX6_top_26 0 6 rfl rfl (Nat.le_of_ble_eq_true rfl) kw_308 rfl ?_
        refine jj_iload_n hJ dX6_top_29 3 rfl rfl ?_
        refine jj_iload_n hJ dX6_top_30 1 rfl rfl ?_
        obtain ⟨r11, h10, hF⟩ := ob hF
        refine jj_callN0 hJ (c_X1_leads l D cI cS cII (fun i => RA (i + 11)) L_G L_l a3 a1 h10) dX6_top_31 kw_27 ⟨Nat.le_of_ble_eq_true rfl, Nat.le_of_ble_eq_true rfl, rfl, rfl⟩ kw_334 kw_28 kw_29 6 rfl rfl rfl rfl (Nat.le_of_ble_eq_true rfl) [6, 7, 8, 9, 10, 11, 12, 13, 14, 15, 16, 17] rfl rfl ?_
        refine jj_if_eq hJ 49 dX6_top_34 rfl (fun c12 => ?_) (fun c12 => ?_)
        · replace hF := ip c12 hF
          refine jj_bipush hJ dX6_top_49 bp_m4 ?_
          cases Option.some.inj hF
          exact jj_iret hJ dX6_top_51
        · replace hF := iq c12 hF
          refine jj_aload_n hJ dX6_top_37 0 rfl rfl ?_
          refine jj_get hJ lay_X6 dX6_top_38 0 6 rfl rfl (Nat.le_of_ble_eq_true rfl) kw_308 rfl ?_
          refine jj_iload_n hJ dX6_top_41 1 rfl rfl ?_
          obtain ⟨r14, h13, hF⟩ := ob hF
          refine jj_callN0 hJ (c_X1_valueOf l D cI cS cII (fun i => RA (i + 11)) L_G L_l a1 h13) dX6_top_42 kw_35 ⟨Nat.le_of_ble_eq_true rfl, Nat.le_of_ble_eq_true rfl, rfl, rfl⟩ kw_309 kw_36 kw_37 6 rfl rfl rfl rfl (Nat.le_of_ble_eq_true rfl) [6, 7, 8, 9, 10, 11, 12, 13, 14, 15, 16, 17] rfl rfl ?_
          refine jj_iload_n hJ dX6_top_45 2 rfl rfl ?_
          refine jj_icmp_le hJ 52 dX6_top_46 rfl (fun c15 => ?_) (fun c15 => ?_)
          · replace hF := ip c15 hF
            refine jj_iload_n hJ dX6_top_52 2 rfl rfl ?_
            refine jj_aload_n hJ dX6_top_53 0 rfl rfl ?_
            refine jj_get hJ lay_X6 dX6_top_54 0 6 rfl rfl (Nat.le_of_ble_eq_true rfl) kw_308 rfl ?_
            refine jj_getN hJ lay_X1 dX6_top_57 6 0 rfl rfl (Nat.le_of_ble_eq_true rfl) kw_310 rfl ?_
            refine jj_iload_n hJ dX6_top_60 3 rfl rfl ?_
            obtain ⟨j16, h17, hF⟩ := ob hF
            refine jj_aald hJ dX6_top_61 7 2 rfl rfl rfl (ix_some h17).1 (congrArg (fun i => some (RA (i + 13))) (ix_some h17).2.1) ?_
            refine jj_iload_n hJ dX6_top_62 1 rfl rfl ?_
            obtain ⟨x18, h19, hF⟩ := ob hF
            refine jj_iald hJ dX6_top_63 (8 + j16) 0 (rw10_get _ (ix_some h17).2.2) rfl h19 ?_
            refine jj_isub hJ dX6_top_64 ?_
            refine jj_sipush hJ dX6_top_65 sp_1000 ?_
            refine jj_iadd hJ dX6_top_68 ?_
            cases Option.some.inj hF
            exact jj_iret hJ dX6_top_69
          · replace hF := iq c15 hF
            refine jj_bipush hJ dX6_top_49 bp_m4 ?_
            cases Option.some.inj hF
            exact jj_iret hJ dX6_top_51
      · replace hF := ip c9 hF
        refine jj_iconst hJ dX6_top_23 ic_m1 ?_
        cases Option.some.inj hF
        exact jj_iret hJ dX6_top_24
section
def W_X6_stands (cI cS cII : ClassId) (RA : Nat → Nat) (R_u : Int32) (R_q : Int32) (R_r : Int32) (A_i : Nat → Int32) (A_p : Nat → Int32) (A_t : Nat → Int32) (A_m : Int32) (N_k : Nat → Int32) (N_f : Nat → Int32) (N_t : Nat → Int32) (N_w : Nat → Int32) (N_l : Int32) (N_b : Int32) (L_G : Nat → Nat → Int32) (L_l : Int32) : va_W := ([((RA 0), .inr (6, [.ref (RA 1), .ref (RA 4), .ref (RA 9), .int R_u, .ref (RA 10), .int R_q, .ref (RA 11), .ref (RA 23), .ref (RA 24), .ref (RA 28), .ref (RA 31), .ref (RA 34), .int R_r])), ((RA 24), .inr (0, [.ref (RA 25), .ref (RA 26), .ref (RA 27), .int A_m])), ((RA 25), .inl (cI, 16, .inl A_i)), ((RA 26), .inl (cI, 3, .inl A_p)), ((RA 27), .inl (cI, 10, .inl A_t)), ((RA 4), .inr (4, [.ref (RA 5), .ref (RA 6), .ref (RA 7), .ref (RA 8), .int N_l, .int N_b])), ((RA 5), .inl (cI, 10, .inl N_k)), ((RA 6), .inl (cI, 16, .inl N_f)), ((RA 7), .inl (cI, 16, .inl N_t)), ((RA 8), .inl (cI, 16, .inl N_w)), ((RA 11), .inr (1, [.ref (RA 12), .int L_l])), ((RA 12), .inl (cII, 10, .inr (.inr (.inr (.inr (fun i => some (RA (i + 13))))))))] ++ rw10 cI (fun i => RA (i + 13)) L_G)
abbrev Rm_X6_stands : Room := { frames := 3, cells := 0, slots := 0, locals := 77 }
variable {l : Launch} {D : va_G} {cI cS cII : ClassId} {RA : Nat → Nat} {A : Nat → Prop} {J : jT}
variable {z_r : Int32} {z_A_i : Nat → Int32} {z_A_p : Nat → Int32} {z_A_t : Nat → Int32} {z_A_m : Int32}
def p_X6_stands (A_i : Nat → Int32) (A_p : Nat → Int32) (A_t : Nat → Int32) (A_m : Int32) (N_k : Nat → Int32) (N_f : Nat → Int32) (N_t : Nat → Int32) (N_w : Nat → Int32) (N_l : Int32) (N_b : Int32) (L_G : Nat → Nat → Int32) (a1 : Int32) (a2 : Int32) (a3 : Int32) (a4 : Int32) : Option (Int32 × (Nat → Int32) × (Nat → Int32) × (Nat → Int32) × Int32) := (p_X6_areUnlike N_l a1 a3).bind fun r2 => if r2 = 0 then (some ((-1), A_i, A_p, A_t, A_m)) else ((p_X6_isK a2).bind fun r5 => if r5 = 0 then (some ((-1), A_i, A_p, A_t, A_m)) else (if a4 < ((-1)) then (some ((-1), A_i, A_p, A_t, A_m)) else (if a4 < 3 then ((p_X4_weightTowards N_k a3 a2).bind fun r10 => (p_X0_choose A_i A_p A_t A_m N_f N_t N_w N_l N_b L_G a1 r10 a3).bind fun (r12, g13, g14, g15, g16) => if a4 = ((-1)) then (some (r12, g13, g14, g15, g16)) else (if r12 = ((-4)) then (some (r12, g13, g14, g15, g16)) else (if r12 ≤ a4 then (some ((-4), g13, g14, g15, g16)) else ((p_X0_numberOf g13 g14 a4).bind fun r21 => some (r21, g13, g14, g15, g16))))) else (some ((-1), A_i, A_p, A_t, A_m)))))
end
set_option maxRecDepth 100000 in
theorem c_X6_stands (l : Launch) (D : va_G) (cI cS cII : ClassId) (RA : Nat → Nat) (R_u : Int32) (R_q : Int32) (R_r : Int32) (A_i : Nat → Int32) (A_p : Nat → Int32) (A_t : Nat → Int32) (A_m : Int32) (N_k : Nat → Int32) (N_f : Nat → Int32) (N_t : Nat → Int32) (N_w : Nat → Int32) (N_l : Int32) (N_b : Int32) (L_G : Nat → Nat → Int32) (L_l : Int32) (a1 : Int32) (a2 : Int32) (a3 : Int32) (a4 : Int32) {z_r : Int32} {z_A_i : Nat → Int32} {z_A_p : Nat → Int32} {z_A_t : Nat → Int32} {z_A_m : Int32} (hF : p_X6_stands A_i A_p A_t A_m N_k N_f N_t N_w N_l N_b L_G a1 a2 a3 a4 = some (z_r, z_A_i, z_A_p, z_A_t, z_A_m)) : MJ l yX6_stands cX6_stands 6 (some .int) Rm_X6_stands D (tysU cI cS cII) [.ref (RA 0), .int a1, .int a2, .int a3, .int a4] (W_X6_stands cI cS cII RA R_u R_q R_r A_i A_p A_t A_m N_k N_f N_t N_w N_l N_b L_G L_l) (some z_r) (W_X6_stands cI cS cII RA R_u R_q R_r z_A_i z_A_p z_A_t z_A_m N_k N_f N_t N_w N_l N_b L_G L_l) := by
  refine mj_of (own := RX6) (by decide) rfl (Nat.le_of_ble_eq_true rfl) (fun J hJ => ?_)
  show J (W_X6_stands cI cS cII RA R_u R_q R_r A_i A_p A_t A_m N_k N_f N_t N_w N_l N_b L_G L_l) 0 [(0, .ref (RA 0)), (1, .int a1), (2, .int a2), (3, .int a3), (4, .int a4)] []
  unfold p_X6_stands at hF
  refine jj_aload_n hJ dX6_stands_0 0 rfl rfl ?_
  refine jj_iload_n hJ dX6_stands_1 1 rfl rfl ?_
  refine jj_iload_n hJ dX6_stands_2 3 rfl rfl ?_
  obtain ⟨r2, h1, hF⟩ := ob hF
  refine jj_callV0 hJ (c_X6_areUnlike l D cI cS cII RA R_u R_q R_r N_k N_f N_t N_w N_l N_b a1 a3 h1) dX6_stands_3 kw_356 ⟨Nat.le_of_ble_eq_true rfl, Nat.le_of_ble_eq_true rfl, rfl, rfl⟩ kw_355 kw_357 kw_358 0 rfl rfl rfl rfl (Nat.le_of_ble_eq_true rfl) [0, 5, 6, 7, 8, 9] rfl rfl ?_
  refine jj_if_eq hJ 28 dX6_stands_6 rfl (fun c3 => ?_) (fun c3 => ?_)
  · replace hF := ip c3 hF
    refine jj_iconst hJ dX6_stands_28 ic_m1 ?_
    cases Option.some.inj hF
    exact jj_iret hJ dX6_stands_29
  · replace hF := iq c3 hF
    refine jj_iload_n hJ dX6_stands_9 2 rfl rfl ?_
    obtain ⟨r5, h4, hF⟩ := ob hF
    refine jj_callS0 hJ (c_X6_isK l D cI cS cII   a2 h4) dX6_stands_10 kw_347 ⟨Nat.le_of_ble_eq_true rfl, Nat.le_of_ble_eq_true rfl, rfl, rfl⟩ kw_348 kw_349 rfl rfl (Nat.le_of_ble_eq_true rfl) [] rfl rfl ?_
    refine jj_if_eq hJ 28 dX6_stands_13 rfl (fun c6 => ?_) (fun c6 => ?_)
    · replace hF := ip c6 hF
      refine jj_iconst hJ dX6_stands_28 ic_m1 ?_
      cases Option.some.inj hF
      exact jj_iret hJ dX6_stands_29
    · replace hF := iq c6 hF
      refine jj_iload hJ dX6_stands_16 4 rfl ?_
      refine jj_iconst hJ dX6_stands_18 ic_m1 ?_
      refine jj_icmp_lt hJ 28 dX6_stands_19 rfl (fun c7 => ?_) (fun c7 => ?_)
      · replace hF := ip c7 hF
        refine jj_iconst hJ dX6_stands_28 ic_m1 ?_
        cases Option.some.inj hF
        exact jj_iret hJ dX6_stands_29
      · replace hF := iq c7 hF
        refine jj_iload hJ dX6_stands_22 4 rfl ?_
        refine jj_iconst hJ dX6_stands_24 ic_3 ?_
        refine jj_icmp_lt hJ 30 dX6_stands_25 rfl (fun c8 => ?_) (fun c8 => ?_)
        · replace hF := ip c8 hF
          refine jj_aload_n hJ dX6_stands_30 0 rfl rfl ?_
          refine jj_get hJ lay_X6 dX6_stands_31 0 8 rfl rfl (Nat.le_of_ble_eq_true rfl) kw_359 rfl ?_
          refine jj_aload_n hJ dX6_stands_34 0 rfl rfl ?_
          refine jj_get hJ lay_X6 dX6_stands_35 0 1 rfl rfl (Nat.le_of_ble_eq_true rfl) kw_306 rfl ?_
          refine jj_aload_n hJ dX6_stands_38 0 rfl rfl ?_
          refine jj_get hJ lay_X6 dX6_stands_39 0 6 rfl rfl (Nat.le_of_ble_eq_true rfl) kw_308 rfl ?_
          refine jj_iload_n hJ dX6_stands_42 1 rfl rfl ?_
          refine jj_aload_n hJ dX6_stands_43 0 rfl rfl ?_
          refine jj_get hJ lay_X6 dX6_stands_44 0 1 rfl rfl (Nat.le_of_ble_eq_true rfl) kw_306 rfl ?_
          refine jj_iload_n hJ dX6_stands_47 3 rfl rfl ?_
          refine jj_iload_n hJ dX6_stands_48 2 rfl rfl ?_
          obtain ⟨r10, h9, hF⟩ := ob hF
          refine jj_callN0 hJ (c_X4_weightTowards l D cI cS cII (fun i => RA (i + 4)) N_k N_f N_t N_w N_l N_b a3 a2 h9) dX6_stands_49 kw_361 ⟨Nat.le_of_ble_eq_true rfl, Nat.le_of_ble_eq_true rfl, rfl, rfl⟩ kw_360 kw_362 kw_363 5 rfl rfl rfl rfl (Nat.le_of_ble_eq_true rfl) [5, 6, 7, 8, 9] rfl rfl ?_
          refine jj_iload_n hJ dX6_stands_52 3 rfl rfl ?_
          obtain ⟨⟨r12, g13, g14, g15, g16⟩, h11, hF⟩ := ob hF
          refine jj_callN hJ (c_X0_choose l D cI cS cII (fun i => RA (i + 24)) (fun i => RA (i + 4)) (fun i => RA (i + 11)) A_i A_p A_t A_m N_k N_f N_t N_w N_l N_b L_G L_l a1 r10 a3 h11) dX6_stands_53 kw_365 ⟨Nat.le_of_ble_eq_true rfl, Nat.le_of_ble_eq_true rfl, rfl, rfl⟩ kw_364 kw_366 kw_367 1 rfl rfl rfl rfl (Nat.le_of_ble_eq_true rfl) [1, 2, 3, 4, 5, 6, 7, 8, 9, 10, 11, 12, 13, 14, 15, 16, 17, 18, 19, 20, 21] rfl rfl (wn := (W_X6_stands cI cS cII RA R_u R_q R_r g13 g14 g15 g16 N_k N_f N_t N_w N_l N_b L_G L_l)) (jNew_sel rfl [none, some 0, some 1, some 2, some 3, some 4, some 5, some 6, some 7, some 8, some 9, some 10, some 11, some 12, some 13, some 14, some 15, some 16, some 17, some 18, some 19, some 20] (by decide +kernel) rfl) ?_
          refine jj_istore hJ dX6_stands_56 (Nat.le_of_ble_eq_true rfl) (lv' := [(5, .int r12), (0, .ref (RA 0)), (1, .int a1), (2, .int a2), (3, .int a3), (4, .int a4)]) rfl ?_
          refine jj_iload hJ dX6_stands_58 5 rfl ?_
          refine jj_iconst hJ dX6_stands_60 ic_m1 ?_
          refine jj_icmp_eq hJ 71 dX6_stands_61 rfl (fun c17 => ?_) (fun c17 => ?_)
          · replace hF := ip c17 hF
            refine jj_iload hJ dX6_stands_71 0 rfl ?_
            cases Option.some.inj hF
            exact jj_iret hJ dX6_stands_73
          · replace hF := iq c17 hF
            refine jj_iload hJ dX6_stands_64 0 rfl ?_
            refine jj_bipush hJ dX6_stands_66 bp_m4 ?_
            refine jj_icmp_ne hJ 74 dX6_stands_68 rfl (fun c18 => ?_) (fun c18 => ?_)
            · replace hF := iq c18 hF
              refine jj_iload hJ dX6_stands_74 5 rfl ?_
              refine jj_iload hJ dX6_stands_76 0 rfl ?_
              refine jj_icmp_ge hJ 93 dX6_stands_78 rfl (fun c19 => ?_) (fun c19 => ?_)
              · replace hF := ip c19 hF
                refine jj_bipush hJ dX6_stands_93 bp_m4 ?_
                cases Option.some.inj hF
                exact jj_iret hJ dX6_stands_95
              · replace hF := iq c19 hF
                refine jj_aload_n hJ dX6_stands_81 1 rfl rfl ?_
                refine jj_get hJ lay_X6 dX6_stands_82 0 8 rfl rfl (Nat.le_of_ble_eq_true rfl) kw_359 rfl ?_
                refine jj_iload hJ dX6_stands_85 5 rfl ?_
                obtain ⟨r21, h20, hF⟩ := ob hF
                refine jj_callN0 hJ (c_X0_numberOf l D cI cS cII (fun i => RA (i + 24)) g13 g14 g15 g16 a4 h20) dX6_stands_87 kw_117 ⟨Nat.le_of_ble_eq_true rfl, Nat.le_of_ble_eq_true rfl, rfl, rfl⟩ kw_368 kw_118 kw_119 1 rfl rfl rfl rfl (Nat.le_of_ble_eq_true rfl) [1, 2, 3, 4] rfl rfl ?_
                refine jj_goto hJ 95 dX6_stands_90 rfl ?_
                cases Option.some.inj hF
                exact jj_iret hJ dX6_stands_95
            · replace hF := ip c18 hF
              refine jj_iload hJ dX6_stands_71 0 rfl ?_
              cases Option.some.inj hF
              exact jj_iret hJ dX6_stands_73
        · replace hF := iq c8 hF
          refine jj_iconst hJ dX6_stands_28 ic_m1 ?_
          cases Option.some.inj hF
          exact jj_iret hJ dX6_stands_29
section
def W_X6_term (cI cS cII : ClassId) (RA : Nat → Nat) (R_u : Int32) (R_q : Int32) (R_r : Int32) (N_k : Nat → Int32) (N_f : Nat → Int32) (N_t : Nat → Int32) (N_w : Nat → Int32) (N_l : Int32) (N_b : Int32) (M_v : Nat → Int32) (M_m : Nat → Int32) (M_s : Int32) : va_W := [((RA 0), .inr (6, [.ref (RA 1), .ref (RA 4), .ref (RA 9), .int R_u, .ref (RA 10), .int R_q, .ref (RA 11), .ref (RA 23), .ref (RA 24), .ref (RA 28), .ref (RA 31), .ref (RA 34), .int R_r])), ((RA 4), .inr (4, [.ref (RA 5), .ref (RA 6), .ref (RA 7), .ref (RA 8), .int N_l, .int N_b])), ((RA 5), .inl (cI, 10, .inl N_k)), ((RA 6), .inl (cI, 16, .inl N_f)), ((RA 7), .inl (cI, 16, .inl N_t)), ((RA 8), .inl (cI, 16, .inl N_w)), ((RA 28), .inr (3, [.ref (RA 29), .ref (RA 30), .int M_s])), ((RA 29), .inl (cI, 10, .inl M_v)), ((RA 30), .inl (cI, 10, .inl M_m))]
abbrev Rm_X6_term : Room := { frames := 1, cells := 0, slots := 0, locals := 22 }
variable {l : Launch} {D : va_G} {cI cS cII : ClassId} {RA : Nat → Nat} {A : Nat → Prop} {J : jT}
variable {z_r : Int32} {z_M_v : Nat → Int32} {z_M_m : Nat → Int32} {z_M_s : Int32}
def p_X6_term (N_l : Int32) (M_v : Nat → Int32) (M_m : Nat → Int32) (M_s : Int32) (a1 : Int32) (a2 : Int32) : Option (Int32 × (Nat → Int32) × (Nat → Int32) × Int32) := (p_X6_isLevel N_l a1).bind fun r2 => if r2 = 0 then (some ((-1), M_v, M_m, M_s)) else ((p_X6_isK a2).bind fun r5 => if r5 = 0 then (some ((-1), M_v, M_m, M_s)) else (if M_s < 6 then ((p_X3_add M_v M_m M_s a1 a2).bind fun (g9, g10, g11) => some (g11, g9, g10, g11)) else (some ((-3), M_v, M_m, M_s))))
end
set_option maxRecDepth 100000 in
theorem c_X6_term (l : Launch) (D : va_G) (cI cS cII : ClassId) (RA : Nat → Nat) (R_u : Int32) (R_q : Int32) (R_r : Int32) (N_k : Nat → Int32) (N_f : Nat → Int32) (N_t : Nat → Int32) (N_w : Nat → Int32) (N_l : Int32) (N_b : Int32) (M_v : Nat → Int32) (M_m : Nat → Int32) (M_s : Int32) (a1 : Int32) (a2 : Int32) {z_r : Int32} {z_M_v : Nat → Int32} {z_M_m : Nat → Int32} {z_M_s : Int32} (hF : p_X6_term N_l M_v M_m M_s a1 a2 = some (z_r, z_M_v, z_M_m, z_M_s)) : MJ l yX6_term cX6_term 3 (some .int) Rm_X6_term D (tysU cI cS cII) [.ref (RA 0), .int a1, .int a2] (W_X6_term cI cS cII RA R_u R_q R_r N_k N_f N_t N_w N_l N_b M_v M_m M_s) (some z_r) (W_X6_term cI cS cII RA R_u R_q R_r N_k N_f N_t N_w N_l N_b z_M_v z_M_m z_M_s) := by
  refine mj_of (own := RX6) (by decide) rfl (Nat.le_of_ble_eq_true rfl) (fun J hJ => ?_)
  show J (W_X6_term cI cS cII RA R_u R_q R_r N_k N_f N_t N_w N_l N_b M_v M_m M_s) 0 [(0, .ref (RA 0)), (1, .int a1), (2, .int a2)] []
  unfold p_X6_term at hF
  refine jj_aload_n hJ dX6_term_0 0 rfl rfl ?_
  refine jj_iload_n hJ dX6_term_1 1 rfl rfl ?_
  obtain ⟨r2, h1, hF⟩ := ob hF
  refine jj_callV0 hJ (c_X6_isLevel l D cI cS cII RA R_u R_q R_r N_k N_f N_t N_w N_l N_b a1 h1) dX6_term_2 kw_312 ⟨Nat.le_of_ble_eq_true rfl, Nat.le_of_ble_eq_true rfl, rfl, rfl⟩ kw_311 kw_313 kw_314 0 rfl rfl rfl rfl (Nat.le_of_ble_eq_true rfl) [0, 1, 2, 3, 4, 5] rfl rfl ?_
  refine jj_if_eq hJ 15 dX6_term_5 rfl (fun c3 => ?_) (fun c3 => ?_)
  · replace hF := ip c3 hF
    refine jj_iconst hJ dX6_term_15 ic_m1 ?_
    cases Option.some.inj hF
    exact jj_iret hJ dX6_term_16
  · replace hF := iq c3 hF
    refine jj_iload_n hJ dX6_term_8 2 rfl rfl ?_
    obtain ⟨r5, h4, hF⟩ := ob hF
    refine jj_callS0 hJ (c_X6_isK l D cI cS cII   a2 h4) dX6_term_9 kw_347 ⟨Nat.le_of_ble_eq_true rfl, Nat.le_of_ble_eq_true rfl, rfl, rfl⟩ kw_348 kw_349 rfl rfl (Nat.le_of_ble_eq_true rfl) [] rfl rfl ?_
    refine jj_if_ne hJ 17 dX6_term_12 rfl (fun c6 => ?_) (fun c6 => ?_)
    · replace hF := iq c6 hF
      refine jj_aload_n hJ dX6_term_17 0 rfl rfl ?_
      refine jj_get hJ lay_X6 dX6_term_18 0 9 rfl rfl (Nat.le_of_ble_eq_true rfl) kw_369 rfl ?_
      refine jj_getN hJ lay_X3 dX6_term_21 6 2 rfl rfl (Nat.le_of_ble_eq_true rfl) kw_370 rfl ?_
      refine jj_bipush hJ dX6_term_24 bp_6 ?_
      refine jj_icmp_lt hJ 32 dX6_term_26 rfl (fun c7 => ?_) (fun c7 => ?_)
      · replace hF := ip c7 hF
        refine jj_aload_n hJ dX6_term_32 0 rfl rfl ?_
        refine jj_get hJ lay_X6 dX6_term_33 0 9 rfl rfl (Nat.le_of_ble_eq_true rfl) kw_369 rfl ?_
        refine jj_iload_n hJ dX6_term_36 1 rfl rfl ?_
        refine jj_iload_n hJ dX6_term_37 2 rfl rfl ?_
        obtain ⟨⟨g9, g10, g11⟩, h8, hF⟩ := ob hF
        refine jj_callN hJ (c_X3_add l D cI cS cII (fun i => RA (i + 28)) M_v M_m M_s a1 a2 h8) dX6_term_38 kw_372 ⟨Nat.le_of_ble_eq_true rfl, Nat.le_of_ble_eq_true rfl, rfl, rfl⟩ kw_371 kw_373 kw_374 6 rfl rfl rfl rfl (Nat.le_of_ble_eq_true rfl) [6, 7, 8] rfl rfl (wn := (W_X6_term cI cS cII RA R_u R_q R_r N_k N_f N_t N_w N_l N_b g9 g10 g11)) (jNew_sel rfl [none, none, none, none, none, none, some 0, some 1, some 2] (by decide +kernel) rfl) ?_
        refine jj_aload_n hJ dX6_term_41 0 rfl rfl ?_
        refine jj_get hJ lay_X6 dX6_term_42 0 9 rfl rfl (Nat.le_of_ble_eq_true rfl) kw_369 rfl ?_
        refine jj_getN hJ lay_X3 dX6_term_45 6 2 rfl rfl (Nat.le_of_ble_eq_true rfl) kw_370 rfl ?_
        cases Option.some.inj hF
        exact jj_iret hJ dX6_term_48
      · replace hF := iq c7 hF
        refine jj_bipush hJ dX6_term_29 bp_m3 ?_
        cases Option.some.inj hF
        exact jj_iret hJ dX6_term_31
    · replace hF := ip c6 hF
      refine jj_iconst hJ dX6_term_15 ic_m1 ?_
      cases Option.some.inj hF
      exact jj_iret hJ dX6_term_16
section
def W_X6_empty (cI cS cII : ClassId) (RA : Nat → Nat) (R_u : Int32) (R_q : Int32) (R_r : Int32) (M_v : Nat → Int32) (M_m : Nat → Int32) (M_s : Int32) : va_W := [((RA 0), .inr (6, [.ref (RA 1), .ref (RA 4), .ref (RA 9), .int R_u, .ref (RA 10), .int R_q, .ref (RA 11), .ref (RA 23), .ref (RA 24), .ref (RA 28), .ref (RA 31), .ref (RA 34), .int R_r])), ((RA 28), .inr (3, [.ref (RA 29), .ref (RA 30), .int M_s])), ((RA 29), .inl (cI, 10, .inl M_v)), ((RA 30), .inl (cI, 10, .inl M_m))]
abbrev Rm_X6_empty : Room := { frames := 0, cells := 0, slots := 0, locals := 0 }
variable {l : Launch} {D : va_G} {cI cS cII : ClassId} {RA : Nat → Nat} {A : Nat → Prop} {J : jT}
variable {z_r : Int32} {z_M_s : Int32}
def p_X6_empty (M_s : Int32) : Option (Int32 × Int32) := some (M_s, 0)
end
set_option maxRecDepth 100000 in
theorem c_X6_empty (l : Launch) (D : va_G) (cI cS cII : ClassId) (RA : Nat → Nat) (R_u : Int32) (R_q : Int32) (R_r : Int32) (M_v : Nat → Int32) (M_m : Nat → Int32) (M_s : Int32)  {z_r : Int32} {z_M_s : Int32} (hF : p_X6_empty M_s = some (z_r, z_M_s)) : MJ l yX6_empty cX6_empty 2 (some .int) Rm_X6_empty D (tysU cI cS cII) [.ref (RA 0)] (W_X6_empty cI cS cII RA R_u R_q R_r M_v M_m M_s) (some z_r) (W_X6_empty cI cS cII RA R_u R_q R_r M_v M_m z_M_s) := by
  refine mj_of (own := RX6) (by decide) rfl (Nat.le_of_ble_eq_true rfl) (fun J hJ => ?_)
  show J (W_X6_empty cI cS cII RA R_u R_q R_r M_v M_m M_s) 0 [(0, .ref (RA 0))] []
  unfold p_X6_empty at hF
  refine jj_aload_n hJ dX6_empty_0 0 rfl rfl ?_
  refine jj_get hJ lay_X6 dX6_empty_1 0 9 rfl rfl (Nat.le_of_ble_eq_true rfl) kw_369 rfl ?_
  refine jj_getN hJ lay_X3 dX6_empty_4 1 2 rfl rfl (Nat.le_of_ble_eq_true rfl) kw_370 rfl ?_
  refine jj_istore_n hJ dX6_empty_7 rfl (Nat.le_of_ble_eq_true rfl) (lv' := [(1, .int M_s), (0, .ref (RA 0))]) rfl ?_
  refine jj_aload_n hJ dX6_empty_8 1 rfl rfl ?_
  refine jj_get hJ lay_X6 dX6_empty_9 0 9 rfl rfl (Nat.le_of_ble_eq_true rfl) kw_369 rfl ?_
  refine jj_iconst hJ dX6_empty_12 ic_0 ?_
  refine jj_putN hJ lay_X3 tyX3 tyX3_ok nmX3 dX6_empty_13 1 2 rfl rfl (Nat.le_of_ble_eq_true rfl) kw_370 rfl rfl (Nat.le_of_ble_eq_true rfl) (wn := (W_X6_empty cI cS cII RA R_u R_q R_r M_v M_m 0)) rfl ?_
  refine jj_iload_n hJ dX6_empty_16 0 rfl rfl ?_
  cases Option.some.inj hF
  exact jj_iret hJ dX6_empty_17
section
def W_X6_brief (cI cS cII : ClassId) (RA : Nat → Nat) (R_u : Int32) (R_q : Int32) (R_r : Int32) (M_v : Nat → Int32) (M_m : Nat → Int32) (M_s : Int32) (L_G : Nat → Nat → Int32) (L_l : Int32) : va_W := ([((RA 0), .inr (6, [.ref (RA 1), .ref (RA 4), .ref (RA 9), .int R_u, .ref (RA 10), .int R_q, .ref (RA 11), .ref (RA 23), .ref (RA 24), .ref (RA 28), .ref (RA 31), .ref (RA 34), .int R_r])), ((RA 28), .inr (3, [.ref (RA 29), .ref (RA 30), .int M_s])), ((RA 29), .inl (cI, 10, .inl M_v)), ((RA 30), .inl (cI, 10, .inl M_m)), ((RA 11), .inr (1, [.ref (RA 12), .int L_l])), ((RA 12), .inl (cII, 10, .inr (.inr (.inr (.inr (fun i => some (RA (i + 13))))))))] ++ rw10 cI (fun i => RA (i + 13)) L_G)
abbrev Rm_X6_brief : Room := { frames := 5, cells := 0, slots := 0, locals := 114 }
variable {l : Launch} {D : va_G} {cI cS cII : ClassId} {RA : Nat → Nat} {A : Nat → Prop} {J : jT}
variable {z_r : Int32}
def q_X6_brief_4 (M_v : Nat → Int32) (M_m : Nat → Int32) (M_s : Int32) (L_G : Nat → Nat → Int32)  : Nat → Int32 → Int32 → Option (Int32)
  | 0, _, _ => none
  | n + 1, v2, v1 => if M_s ≤ v2 then (some v1) else ((p_X3_isShort M_v M_m M_s L_G v2).bind fun r3 => if r3 = 0 then (q_X6_brief_4 M_v M_m M_s L_G n (v2 + 1) v1) else (q_X6_brief_4 M_v M_m M_s L_G n (v2 + 1) (v1 ||| (1 <<< (v2 &&& 31)))))
set_option maxRecDepth 100000 in
theorem w_X6_brief_4 {R_u : Int32} {R_q : Int32} {R_r : Int32} {M_v : Nat → Int32} {M_m : Nat → Int32} {M_s : Int32} {L_G : Nat → Nat → Int32} {L_l : Int32}   (hJ : jJ l cX6_brief 3 D (tysU cI cS cII) RX6 Rm_X6_brief (some .int) A (some z_r) (W_X6_brief cI cS cII RA R_u R_q R_r M_v M_m M_s L_G L_l) J)  : ∀ (n : Nat) (v2 : Int32) (v1 : Int32), q_X6_brief_4 M_v M_m M_s L_G n v2 v1 = some z_r → J (W_X6_brief cI cS cII RA R_u R_q R_r M_v M_m M_s L_G L_l) 4 [(2, .int v2), (1, .int v1), (0, .ref (RA 0))] [] := by
  intro n
  induction n with
  | zero =>
    intro v2 v1 hF
    exact no_some (show (none : Option (Int32)) = some z_r from hF)
  | succ n ih =>
    intro v2 v1 hF
    rw [q_X6_brief_4.eq_2] at hF
    refine jj_iload_n hJ dX6_brief_4 0 rfl rfl ?_
    refine jj_aload_n hJ dX6_brief_5 2 rfl rfl ?_
    refine jj_get hJ lay_X6 dX6_brief_6 0 9 rfl rfl (Nat.le_of_ble_eq_true rfl) kw_369 rfl ?_
    refine jj_getN hJ lay_X3 dX6_brief_9 1 2 rfl rfl (Nat.le_of_ble_eq_true rfl) kw_370 rfl ?_
    refine jj_icmp_ge hJ 42 dX6_brief_12 rfl (fun c1 => ?_) (fun c1 => ?_)
    · replace hF := ip c1 hF
      refine jj_iload_n hJ dX6_brief_42 1 rfl rfl ?_
      cases Option.some.inj hF
      exact jj_iret hJ dX6_brief_43
    · replace hF := iq c1 hF
      refine jj_aload_n hJ dX6_brief_15 2 rfl rfl ?_
      refine jj_get hJ lay_X6 dX6_brief_16 0 9 rfl rfl (Nat.le_of_ble_eq_true rfl) kw_369 rfl ?_
      refine jj_iload_n hJ dX6_brief_19 0 rfl rfl ?_
      refine jj_aload_n hJ dX6_brief_20 2 rfl rfl ?_
      refine jj_get hJ lay_X6 dX6_brief_21 0 6 rfl rfl (Nat.le_of_ble_eq_true rfl) kw_308 rfl ?_
      obtain ⟨r3, h2, hF⟩ := ob hF
      refine jj_callN0 hJ (c_X3_isShort l D cI cS cII (fun i => RA (i + 28)) (fun i => RA (i + 11)) M_v M_m M_s L_G L_l v2 h2) dX6_brief_24 kw_376 ⟨Nat.le_of_ble_eq_true rfl, Nat.le_of_ble_eq_true rfl, rfl, rfl⟩ kw_375 kw_377 kw_378 1 rfl rfl rfl rfl (Nat.le_of_ble_eq_true rfl) [1, 2, 3, 4, 5, 6, 7, 8, 9, 10, 11, 12, 13, 14, 15] rfl rfl ?_
      refine jj_if_eq hJ 36 dX6_brief_27 rfl (fun c4 => ?_) (fun c4 => ?_)
      · replace hF := ip c4 hF
        refine jj_iinc hJ dX6_brief_36 0 rfl (v := v2 + 1) (by rw [ic_1]) (Nat.le_of_ble_eq_true rfl) (lv' := [(2, .int (v2 + 1)), (1, .int v1), (0, .ref (RA 0))]) rfl ?_
        refine jj_goto hJ 4 dX6_brief_39 rfl ?_
        exact ih (v2 + 1) v1 hF
      · replace hF := iq c4 hF
        refine jj_iload_n hJ dX6_brief_30 1 rfl rfl ?_
        refine jj_iconst hJ dX6_brief_31 ic_1 ?_
        refine jj_iload_n hJ dX6_brief_32 0 rfl rfl ?_
        refine jj_ishl hJ dX6_brief_33 ?_
        refine jj_ior hJ dX6_brief_34 ?_
        refine jj_istore_n hJ dX6_brief_35 rfl (Nat.le_of_ble_eq_true rfl) (lv' := [(1, .int (v1 ||| (1 <<< (v2 &&& 31)))), (2, .int v2), (0, .ref (RA 0))]) rfl ?_
        refine jj_iinc hJ dX6_brief_36 1 rfl (v := v2 + 1) (by rw [ic_1]) (Nat.le_of_ble_eq_true rfl) (lv' := [(2, .int (v2 + 1)), (1, .int (v1 ||| (1 <<< (v2 &&& 31)))), (0, .ref (RA 0))]) rfl ?_
        refine jj_goto hJ 4 dX6_brief_39 rfl ?_
        exact ih (v2 + 1) (v1 ||| (1 <<< (v2 &&& 31))) hF
def p_X6_brief (M_v : Nat → Int32) (M_m : Nat → Int32) (M_s : Int32) (L_G : Nat → Nat → Int32) : Option (Int32) := q_X6_brief_4 M_v M_m M_s L_G FU 0 0
end
set_option maxRecDepth 100000 in
theorem c_X6_brief (l : Launch) (D : va_G) (cI cS cII : ClassId) (RA : Nat → Nat) (R_u : Int32) (R_q : Int32) (R_r : Int32) (M_v : Nat → Int32) (M_m : Nat → Int32) (M_s : Int32) (L_G : Nat → Nat → Int32) (L_l : Int32)  {z_r : Int32} (hF : p_X6_brief M_v M_m M_s L_G = some z_r) : MJ l yX6_brief cX6_brief 3 (some .int) Rm_X6_brief D (tysU cI cS cII) [.ref (RA 0)] (W_X6_brief cI cS cII RA R_u R_q R_r M_v M_m M_s L_G L_l) (some z_r) (W_X6_brief cI cS cII RA R_u R_q R_r M_v M_m M_s L_G L_l) := by
  refine mj_of (own := RX6) (by decide) rfl (Nat.le_of_ble_eq_true rfl) (fun J hJ => ?_)
  show J (W_X6_brief cI cS cII RA R_u R_q R_r M_v M_m M_s L_G L_l) 0 [(0, .ref (RA 0))] []
  unfold p_X6_brief at hF
  refine jj_iconst hJ dX6_brief_0 ic_0 ?_
  refine jj_istore_n hJ dX6_brief_1 rfl (Nat.le_of_ble_eq_true rfl) (lv' := [(1, .int 0), (0, .ref (RA 0))]) rfl ?_
  refine jj_iconst hJ dX6_brief_2 ic_0 ?_
  refine jj_istore_n hJ dX6_brief_3 rfl (Nat.le_of_ble_eq_true rfl) (lv' := [(2, .int 0), (1, .int 0), (0, .ref (RA 0))]) rfl ?_
  exact w_X6_brief_4 hJ  FU 0 0 hF
section
def W_X6_below (cI cS cII : ClassId) (RA : Nat → Nat) (R_u : Int32) (R_q : Int32) (R_r : Int32) (N_k : Nat → Int32) (N_f : Nat → Int32) (N_t : Nat → Int32) (N_w : Nat → Int32) (N_l : Int32) (N_b : Int32) (M_v : Nat → Int32) (M_m : Nat → Int32) (M_s : Int32) (L_G : Nat → Nat → Int32) (L_l : Int32) : va_W := ([((RA 0), .inr (6, [.ref (RA 1), .ref (RA 4), .ref (RA 9), .int R_u, .ref (RA 10), .int R_q, .ref (RA 11), .ref (RA 23), .ref (RA 24), .ref (RA 28), .ref (RA 31), .ref (RA 34), .int R_r])), ((RA 4), .inr (4, [.ref (RA 5), .ref (RA 6), .ref (RA 7), .ref (RA 8), .int N_l, .int N_b])), ((RA 5), .inl (cI, 10, .inl N_k)), ((RA 6), .inl (cI, 16, .inl N_f)), ((RA 7), .inl (cI, 16, .inl N_t)), ((RA 8), .inl (cI, 16, .inl N_w)), ((RA 28), .inr (3, [.ref (RA 29), .ref (RA 30), .int M_s])), ((RA 29), .inl (cI, 10, .inl M_v)), ((RA 30), .inl (cI, 10, .inl M_m)), ((RA 11), .inr (1, [.ref (RA 12), .int L_l])), ((RA 12), .inl (cII, 10, .inr (.inr (.inr (.inr (fun i => some (RA (i + 13))))))))] ++ rw10 cI (fun i => RA (i + 13)) L_G)
abbrev Rm_X6_below : Room := { frames := 2, cells := 0, slots := 0, locals := 45 }
variable {l : Launch} {D : va_G} {cI cS cII : ClassId} {RA : Nat → Nat} {A : Nat → Prop} {J : jT}
variable {z_r : Int32}
def q_X6_below_19 (N_l : Int32) (M_v : Nat → Int32) (M_m : Nat → Int32) (M_s : Int32) (L_G : Nat → Nat → Int32) (a1 : Int32) (a2 : Int32)  : Nat → Int32 → Option (Int32)
  | 0, _ => none
  | n + 1, v3 => if M_s ≤ v3 then (some 1) else ((rd M_v 10 v3).bind fun x2 => (rd M_m 10 v3).bind fun x4 => (p_X1_implies L_G x2 (x4 - a2) a1).bind fun r7 => if r7 = 0 then (some 0) else (q_X6_below_19 N_l M_v M_m M_s L_G a1 a2 n (v3 + 1)))
set_option maxRecDepth 100000 in
theorem w_X6_below_19 {R_u : Int32} {R_q : Int32} {R_r : Int32} {N_k : Nat → Int32} {N_f : Nat → Int32} {N_t : Nat → Int32} {N_w : Nat → Int32} {N_l : Int32} {N_b : Int32} {M_v : Nat → Int32} {M_m : Nat → Int32} {M_s : Int32} {L_G : Nat → Nat → Int32} {L_l : Int32} {a1 : Int32} {a2 : Int32}  (hJ : jJ l cX6_below 4 D (tysU cI cS cII) RX6 Rm_X6_below (some .int) A (some z_r) (W_X6_below cI cS cII RA R_u R_q R_r N_k N_f N_t N_w N_l N_b M_v M_m M_s L_G L_l) J)  : ∀ (n : Nat) (v3 : Int32), q_X6_below_19 N_l M_v M_m M_s L_G a1 a2 n v3 = some z_r → J (W_X6_below cI cS cII RA R_u R_q R_r N_k N_f N_t N_w N_l N_b M_v M_m M_s L_G L_l) 19 [(3, .int v3), (0, .ref (RA 0)), (1, .int a1), (2, .int a2)] [] := by
  intro n
  induction n with
  | zero =>
    intro v3 hF
    exact no_some (show (none : Option (Int32)) = some z_r from hF)
  | succ n ih =>
    intro v3 hF
    rw [q_X6_below_19.eq_2] at hF
    refine jj_iload_n hJ dX6_below_19 0 rfl rfl ?_
    refine jj_aload_n hJ dX6_below_20 1 rfl rfl ?_
    refine jj_get hJ lay_X6 dX6_below_21 0 9 rfl rfl (Nat.le_of_ble_eq_true rfl) kw_369 rfl ?_
    refine jj_getN hJ lay_X3 dX6_below_24 6 2 rfl rfl (Nat.le_of_ble_eq_true rfl) kw_370 rfl ?_
    refine jj_icmp_ge hJ 69 dX6_below_27 rfl (fun c1 => ?_) (fun c1 => ?_)
    · replace hF := ip c1 hF
      refine jj_iconst hJ dX6_below_69 ic_1 ?_
      cases Option.some.inj hF
      exact jj_iret hJ dX6_below_70
    · replace hF := iq c1 hF
      refine jj_aload_n hJ dX6_below_30 1 rfl rfl ?_
      refine jj_get hJ lay_X6 dX6_below_31 0 6 rfl rfl (Nat.le_of_ble_eq_true rfl) kw_308 rfl ?_
      refine jj_aload_n hJ dX6_below_34 1 rfl rfl ?_
      refine jj_get hJ lay_X6 dX6_below_35 0 9 rfl rfl (Nat.le_of_ble_eq_true rfl) kw_369 rfl ?_
      refine jj_getN hJ lay_X3 dX6_below_38 6 0 rfl rfl (Nat.le_of_ble_eq_true rfl) kw_379 rfl ?_
      refine jj_iload_n hJ dX6_below_41 0 rfl rfl ?_
      obtain ⟨x2, h3, hF⟩ := ob hF
      refine jj_iald hJ dX6_below_42 7 0 rfl rfl h3 ?_
      refine jj_aload_n hJ dX6_below_43 1 rfl rfl ?_
      refine jj_get hJ lay_X6 dX6_below_44 0 9 rfl rfl (Nat.le_of_ble_eq_true rfl) kw_369 rfl ?_
      refine jj_getN hJ lay_X3 dX6_below_47 6 1 rfl rfl (Nat.le_of_ble_eq_true rfl) kw_380 rfl ?_
      refine jj_iload_n hJ dX6_below_50 0 rfl rfl ?_
      obtain ⟨x4, h5, hF⟩ := ob hF
      refine jj_iald hJ dX6_below_51 8 0 rfl rfl h5 ?_
      refine jj_iload_n hJ dX6_below_52 3 rfl rfl ?_
      refine jj_isub hJ dX6_below_53 ?_
      refine jj_iload_n hJ dX6_below_54 2 rfl rfl ?_
      obtain ⟨r7, h6, hF⟩ := ob hF
      refine jj_callN0 hJ (c_X1_implies l D cI cS cII (fun i => RA (i + 11)) L_G L_l x2 (x4 - a2) a1 h6) dX6_below_55 kw_42 ⟨Nat.le_of_ble_eq_true rfl, Nat.le_of_ble_eq_true rfl, rfl, rfl⟩ kw_350 kw_43 kw_44 9 rfl rfl rfl rfl (Nat.le_of_ble_eq_true rfl) [9, 10, 11, 12, 13, 14, 15, 16, 17, 18, 19, 20] rfl rfl ?_
      refine jj_if_ne hJ 63 dX6_below_58 rfl (fun c8 => ?_) (fun c8 => ?_)
      · replace hF := iq c8 hF
        refine jj_iinc hJ dX6_below_63 0 rfl (v := v3 + 1) (by rw [ic_1]) (Nat.le_of_ble_eq_true rfl) (lv' := [(3, .int (v3 + 1)), (0, .ref (RA 0)), (1, .int a1), (2, .int a2)]) rfl ?_
        refine jj_goto hJ 19 dX6_below_66 rfl ?_
        exact ih (v3 + 1) hF
      · replace hF := ip c8 hF
        refine jj_iconst hJ dX6_below_61 ic_0 ?_
        cases Option.some.inj hF
        exact jj_iret hJ dX6_below_62
def p_X6_below (N_l : Int32) (M_v : Nat → Int32) (M_m : Nat → Int32) (M_s : Int32) (L_G : Nat → Nat → Int32) (a1 : Int32) (a2 : Int32) : Option (Int32) := (p_X6_isLevel N_l a1).bind fun r2 => if r2 = 0 then (some ((-1))) else ((p_X6_isK a2).bind fun r5 => if r5 = 0 then (some ((-1))) else (q_X6_below_19 N_l M_v M_m M_s L_G a1 a2 FU 0))
end
set_option maxRecDepth 100000 in
theorem c_X6_below (l : Launch) (D : va_G) (cI cS cII : ClassId) (RA : Nat → Nat) (R_u : Int32) (R_q : Int32) (R_r : Int32) (N_k : Nat → Int32) (N_f : Nat → Int32) (N_t : Nat → Int32) (N_w : Nat → Int32) (N_l : Int32) (N_b : Int32) (M_v : Nat → Int32) (M_m : Nat → Int32) (M_s : Int32) (L_G : Nat → Nat → Int32) (L_l : Int32) (a1 : Int32) (a2 : Int32) {z_r : Int32} (hF : p_X6_below N_l M_v M_m M_s L_G a1 a2 = some z_r) : MJ l yX6_below cX6_below 4 (some .int) Rm_X6_below D (tysU cI cS cII) [.ref (RA 0), .int a1, .int a2] (W_X6_below cI cS cII RA R_u R_q R_r N_k N_f N_t N_w N_l N_b M_v M_m M_s L_G L_l) (some z_r) (W_X6_below cI cS cII RA R_u R_q R_r N_k N_f N_t N_w N_l N_b M_v M_m M_s L_G L_l) := by
  refine mj_of (own := RX6) (by decide) rfl (Nat.le_of_ble_eq_true rfl) (fun J hJ => ?_)
  show J (W_X6_below cI cS cII RA R_u R_q R_r N_k N_f N_t N_w N_l N_b M_v M_m M_s L_G L_l) 0 [(0, .ref (RA 0)), (1, .int a1), (2, .int a2)] []
  unfold p_X6_below at hF
  refine jj_aload_n hJ dX6_below_0 0 rfl rfl ?_
  refine jj_iload_n hJ dX6_below_1 1 rfl rfl ?_
  obtain ⟨r2, h1, hF⟩ := ob hF
  refine jj_callV0 hJ (c_X6_isLevel l D cI cS cII RA R_u R_q R_r N_k N_f N_t N_w N_l N_b a1 h1) dX6_below_2 kw_312 ⟨Nat.le_of_ble_eq_true rfl, Nat.le_of_ble_eq_true rfl, rfl, rfl⟩ kw_311 kw_313 kw_314 0 rfl rfl rfl rfl (Nat.le_of_ble_eq_true rfl) [0, 1, 2, 3, 4, 5] rfl rfl ?_
  refine jj_if_eq hJ 15 dX6_below_5 rfl (fun c3 => ?_) (fun c3 => ?_)
  · replace hF := ip c3 hF
    refine jj_iconst hJ dX6_below_15 ic_m1 ?_
    cases Option.some.inj hF
    exact jj_iret hJ dX6_below_16
  · replace hF := iq c3 hF
    refine jj_iload_n hJ dX6_below_8 2 rfl rfl ?_
    obtain ⟨r5, h4, hF⟩ := ob hF
    refine jj_callS0 hJ (c_X6_isK l D cI cS cII   a2 h4) dX6_below_9 kw_347 ⟨Nat.le_of_ble_eq_true rfl, Nat.le_of_ble_eq_true rfl, rfl, rfl⟩ kw_348 kw_349 rfl rfl (Nat.le_of_ble_eq_true rfl) [] rfl rfl ?_
    refine jj_if_ne hJ 17 dX6_below_12 rfl (fun c6 => ?_) (fun c6 => ?_)
    · replace hF := iq c6 hF
      refine jj_iconst hJ dX6_below_17 ic_0 ?_
      refine jj_istore_n hJ dX6_below_18 rfl (Nat.le_of_ble_eq_true rfl) (lv' := [(3, .int 0), (0, .ref (RA 0)), (1, .int a1), (2, .int a2)]) rfl ?_
      exact w_X6_below_19 hJ  FU 0 hF
    · replace hF := ip c6 hF
      refine jj_iconst hJ dX6_below_15 ic_m1 ?_
      cases Option.some.inj hF
      exact jj_iret hJ dX6_below_16
section
def W_X6_worth (cI cS cII : ClassId) (RA : Nat → Nat) (R_u : Int32) (R_q : Int32) (R_r : Int32) (M_v : Nat → Int32) (M_m : Nat → Int32) (M_s : Int32) (L_G : Nat → Nat → Int32) (L_l : Int32) : va_W := ([((RA 0), .inr (6, [.ref (RA 1), .ref (RA 4), .ref (RA 9), .int R_u, .ref (RA 10), .int R_q, .ref (RA 11), .ref (RA 23), .ref (RA 24), .ref (RA 28), .ref (RA 31), .ref (RA 34), .int R_r])), ((RA 28), .inr (3, [.ref (RA 29), .ref (RA 30), .int M_s])), ((RA 29), .inl (cI, 10, .inl M_v)), ((RA 30), .inl (cI, 10, .inl M_m)), ((RA 11), .inr (1, [.ref (RA 12), .int L_l])), ((RA 12), .inl (cII, 10, .inr (.inr (.inr (.inr (fun i => some (RA (i + 13))))))))] ++ rw10 cI (fun i => RA (i + 13)) L_G)
abbrev Rm_X6_worth : Room := { frames := 2, cells := 0, slots := 0, locals := 44 }
variable {l : Launch} {D : va_G} {cI cS cII : ClassId} {RA : Nat → Nat} {A : Nat → Prop} {J : jT}
variable {z_r : Int32}
def q_X6_worth_4 (M_v : Nat → Int32) (M_m : Nat → Int32) (M_s : Int32) (L_G : Nat → Nat → Int32) (L_l : Int32)  : Nat → Int32 → Int32 → Option (Int32)
  | 0, _, _ => none
  | n + 1, v2, v1 => if M_s ≤ v2 then (some v1) else ((rd M_v 10 v2).bind fun x2 => (p_X1_valueOf L_G L_l x2).bind fun r5 => (rd M_m 10 v2).bind fun x6 => q_X6_worth_4 M_v M_m M_s L_G L_l n (v2 + 1) (if v1 < (r5 + x6) then (r5 + x6) else v1))
set_option maxRecDepth 100000 in
theorem w_X6_worth_4 {R_u : Int32} {R_q : Int32} {R_r : Int32} {M_v : Nat → Int32} {M_m : Nat → Int32} {M_s : Int32} {L_G : Nat → Nat → Int32} {L_l : Int32}   (hJ : jJ l cX6_worth 3 D (tysU cI cS cII) RX6 Rm_X6_worth (some .int) A (some z_r) (W_X6_worth cI cS cII RA R_u R_q R_r M_v M_m M_s L_G L_l) J)  : ∀ (n : Nat) (v2 : Int32) (v1 : Int32), q_X6_worth_4 M_v M_m M_s L_G L_l n v2 v1 = some z_r → J (W_X6_worth cI cS cII RA R_u R_q R_r M_v M_m M_s L_G L_l) 4 [(2, .int v2), (1, .int v1), (0, .ref (RA 0))] [] := by
  intro n
  induction n with
  | zero =>
    intro v2 v1 hF
    exact no_some (show (none : Option (Int32)) = some z_r from hF)
  | succ n ih =>
    intro v2 v1 hF
    rw [q_X6_worth_4.eq_2] at hF
    refine jj_iload_n hJ dX6_worth_4 0 rfl rfl ?_
    refine jj_aload_n hJ dX6_worth_5 2 rfl rfl ?_
    refine jj_get hJ lay_X6 dX6_worth_6 0 9 rfl rfl (Nat.le_of_ble_eq_true rfl) kw_369 rfl ?_
    refine jj_getN hJ lay_X3 dX6_worth_9 1 2 rfl rfl (Nat.le_of_ble_eq_true rfl) kw_370 rfl ?_
    refine jj_icmp_ge hJ 52 dX6_worth_12 rfl (fun c1 => ?_) (fun c1 => ?_)
    · replace hF := ip c1 hF
      refine jj_iload_n hJ dX6_worth_52 1 rfl rfl ?_
      cases Option.some.inj hF
      exact jj_iret hJ dX6_worth_53
    · replace hF := iq c1 hF
      refine jj_iload_n hJ dX6_worth_15 1 rfl rfl ?_
      refine jj_aload_n hJ dX6_worth_16 2 rfl rfl ?_
      refine jj_get hJ lay_X6 dX6_worth_17 0 6 rfl rfl (Nat.le_of_ble_eq_true rfl) kw_308 rfl ?_
      refine jj_aload_n hJ dX6_worth_20 2 rfl rfl ?_
      refine jj_get hJ lay_X6 dX6_worth_21 0 9 rfl rfl (Nat.le_of_ble_eq_true rfl) kw_369 rfl ?_
      refine jj_getN hJ lay_X3 dX6_worth_24 1 0 rfl rfl (Nat.le_of_ble_eq_true rfl) kw_379 rfl ?_
      refine jj_iload_n hJ dX6_worth_27 0 rfl rfl ?_
      obtain ⟨x2, h3, hF⟩ := ob hF
      refine jj_iald hJ dX6_worth_28 2 0 rfl rfl h3 ?_
      obtain ⟨r5, h4, hF⟩ := ob hF
      refine jj_callN0 hJ (c_X1_valueOf l D cI cS cII (fun i => RA (i + 11)) L_G L_l x2 h4) dX6_worth_29 kw_35 ⟨Nat.le_of_ble_eq_true rfl, Nat.le_of_ble_eq_true rfl, rfl, rfl⟩ kw_309 kw_36 kw_37 4 rfl rfl rfl rfl (Nat.le_of_ble_eq_true rfl) [4, 5, 6, 7, 8, 9, 10, 11, 12, 13, 14, 15] rfl rfl ?_
      refine jj_aload_n hJ dX6_worth_32 2 rfl rfl ?_
      refine jj_get hJ lay_X6 dX6_worth_33 0 9 rfl rfl (Nat.le_of_ble_eq_true rfl) kw_369 rfl ?_
      refine jj_getN hJ lay_X3 dX6_worth_36 1 1 rfl rfl (Nat.le_of_ble_eq_true rfl) kw_380 rfl ?_
      refine jj_iload_n hJ dX6_worth_39 0 rfl rfl ?_
      obtain ⟨x6, h7, hF⟩ := ob hF
      refine jj_iald hJ dX6_worth_40 3 0 rfl rfl h7 ?_
      refine jj_iadd hJ dX6_worth_41 ?_
      refine jj_max hJ dX6_worth_42 kw_354 kw_31 kw_32 kw_33 (Nat.le_of_ble_eq_true rfl) (Nat.le_of_ble_eq_true rfl) ?_
      refine jj_istore_n hJ dX6_worth_45 rfl (Nat.le_of_ble_eq_true rfl) (lv' := [(1, .int (if v1 < (r5 + x6) then (r5 + x6) else v1)), (2, .int v2), (0, .ref (RA 0))]) rfl ?_
      refine jj_iinc hJ dX6_worth_46 1 rfl (v := v2 + 1) (by rw [ic_1]) (Nat.le_of_ble_eq_true rfl) (lv' := [(2, .int (v2 + 1)), (1, .int (if v1 < (r5 + x6) then (r5 + x6) else v1)), (0, .ref (RA 0))]) rfl ?_
      refine jj_goto hJ 4 dX6_worth_49 rfl ?_
      exact ih (v2 + 1) (if v1 < (r5 + x6) then (r5 + x6) else v1) hF
def p_X6_worth (M_v : Nat → Int32) (M_m : Nat → Int32) (M_s : Int32) (L_G : Nat → Nat → Int32) (L_l : Int32) : Option (Int32) := q_X6_worth_4 M_v M_m M_s L_G L_l FU 0 0
end
set_option maxRecDepth 100000 in
theorem c_X6_worth (l : Launch) (D : va_G) (cI cS cII : ClassId) (RA : Nat → Nat) (R_u : Int32) (R_q : Int32) (R_r : Int32) (M_v : Nat → Int32) (M_m : Nat → Int32) (M_s : Int32) (L_G : Nat → Nat → Int32) (L_l : Int32)  {z_r : Int32} (hF : p_X6_worth M_v M_m M_s L_G L_l = some z_r) : MJ l yX6_worth cX6_worth 3 (some .int) Rm_X6_worth D (tysU cI cS cII) [.ref (RA 0)] (W_X6_worth cI cS cII RA R_u R_q R_r M_v M_m M_s L_G L_l) (some z_r) (W_X6_worth cI cS cII RA R_u R_q R_r M_v M_m M_s L_G L_l) := by
  refine mj_of (own := RX6) (by decide) rfl (Nat.le_of_ble_eq_true rfl) (fun J hJ => ?_)
  show J (W_X6_worth cI cS cII RA R_u R_q R_r M_v M_m M_s L_G L_l) 0 [(0, .ref (RA 0))] []
  unfold p_X6_worth at hF
  refine jj_iconst hJ dX6_worth_0 ic_0 ?_
  refine jj_istore_n hJ dX6_worth_1 rfl (Nat.le_of_ble_eq_true rfl) (lv' := [(1, .int 0), (0, .ref (RA 0))]) rfl ?_
  refine jj_iconst hJ dX6_worth_2 ic_0 ?_
  refine jj_istore_n hJ dX6_worth_3 rfl (Nat.le_of_ble_eq_true rfl) (lv' := [(2, .int 0), (1, .int 0), (0, .ref (RA 0))]) rfl ?_
  exact w_X6_worth_4 hJ  FU 0 0 hF
