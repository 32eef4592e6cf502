theorem bp_32 : (Int8.ofInt (32)).toInt32 = (32 : Int32) := by decide
theorem bp_126 : (Int8.ofInt (126)).toInt32 = (126 : Int32) := by decide
theorem kw_296 : Cond.fieldLink RX6 10 (TX6 0).1 (TX6 0).2.1 (TX6 0).2.2.1 ∈ lw_tbl := tb2 (i := 74) rfl
theorem kw_297 : ((RX6, 77, yX5_append, "UniverseLevels") : String × Nat × MethodName × String) ∈ nestM := List.mem_of_getElem? (i := 6) rfl
theorem kw_298 : cwOk yX5_append cX5_append 2 (some .boolean) 1 := ⟨tb1 (i := 214) rfl, tb1 (i := 2) rfl, by decide, by decide, by decide +kernel⟩
theorem kw_299 : Cond.instanceMethod yX5_append ∈ lw_tbl := tb1 (i := 213) rfl
theorem kw_300 : Cond.selects RX5 yX5_append yX5_append ∈ lw_tbl := tsel (i := 0) (q := (⟨"UniverseLevels$Text", "append", "(I)Z"⟩, 3)) rfl
theorem kw_301 : ((RX6, 84, (TX5 2).1, (TX5 2).2.1, (TX5 2).2.2.1, "UniverseLevels") : String × Nat × String × String × String × String) ∈ nestF := List.mem_of_getElem? (i := 1) rfl
theorem kw_302 : ((RX6, 87, yX5_firstFault, "UniverseLevels") : String × Nat × MethodName × String) ∈ nestM := List.mem_of_getElem? (i := 17) rfl
theorem kw_303 : cwOk yX5_firstFault cX5_firstFault 5 (some .int) 0 := ⟨tb2 (i := 130) rfl, tb1 (i := 2) rfl, by decide, by decide, by decide +kernel⟩
theorem kw_304 : Cond.instanceMethod yX5_firstFault ∈ lw_tbl := tb2 (i := 129) rfl
theorem kw_305 : Cond.selects RX5 yX5_firstFault yX5_firstFault ∈ lw_tbl := tsel (i := 20) (q := (⟨"UniverseLevels$Text", "firstFault", "()I"⟩, 3)) rfl
theorem kw_306 : Cond.fieldLink RX6 19 (TX6 1).1 (TX6 1).2.1 (TX6 1).2.2.1 ∈ lw_tbl := tb2 (i := 75) rfl
theorem kw_307 : ((RX6, 224, (TX4 4).1, (TX4 4).2.1, (TX4 4).2.2.1, "UniverseLevels") : String × Nat × String × String × String × String) ∈ nestF := List.mem_of_getElem? (i := 14) rfl
theorem kw_308 : Cond.fieldLink RX6 33 (TX6 6).1 (TX6 6).2.1 (TX6 6).2.2.1 ∈ lw_tbl := tb2 (i := 80) rfl
theorem kw_309 : ((RX6, 99, yX1_valueOf, "UniverseLevels") : String × Nat × MethodName × String) ∈ nestM := List.mem_of_getElem? (i := 18) rfl
theorem kw_310 : ((RX6, 134, (TX1 0).1, (TX1 0).2.1, (TX1 0).2.2.1, "UniverseLevels") : String × Nat × String × String × String × String) ∈ nestF := List.mem_of_getElem? (i := 20) rfl
theorem kw_311 : Cond.methodLink RX6 93 yX6_isLevel ∈ lw_tbl := tb2 (i := 144) rfl
theorem kw_312 : cwOk yX6_isLevel cX6_isLevel 2 (some .boolean) 1 := ⟨tb2 (i := 147) rfl, tb1 (i := 1) rfl, by decide, by decide, by decide +kernel⟩
theorem kw_313 : Cond.instanceMethod yX6_isLevel ∈ lw_tbl := tb2 (i := 146) rfl
theorem kw_314 : Cond.selects RX6 yX6_isLevel yX6_isLevel ∈ lw_tbl := tsel (i := 22) (q := (⟨"UniverseLevels", "isLevel", "(I)Z"⟩, 13)) rfl
theorem kw_315 : ((RX6, 96, (TX4 0).1, (TX4 0).2.1, (TX4 0).2.2.1, "UniverseLevels") : String × Nat × String × String × String × String) ∈ nestF := List.mem_of_getElem? (i := 2) rfl
theorem kw_316 : Cond.methodLink RX6 103 yX6_placeOf ∈ lw_tbl := tb2 (i := 155) rfl
theorem kw_317 : cwOk yX6_placeOf cX6_placeOf 6 (some .int) 1 := ⟨tb2 (i := 158) rfl, tb1 (i := 1) rfl, by decide, by decide, by decide +kernel⟩
theorem kw_318 : Cond.instanceMethod yX6_placeOf ∈ lw_tbl := tb2 (i := 157) rfl
theorem kw_319 : Cond.selects RX6 yX6_placeOf yX6_placeOf ∈ lw_tbl := tsel (i := 24) (q := (⟨"UniverseLevels", "placeOf", "(I)I"⟩, 13)) rfl
theorem kw_320 : Cond.methodLink RX6 106 yX6_sameAs ∈ lw_tbl := tb2 (i := 159) rfl
theorem kw_321 : cwOk yX6_sameAs cX6_sameAs 4 (some .int) 1 := ⟨tb2 (i := 162) rfl, tb1 (i := 1) rfl, by decide, by decide, by decide +kernel⟩
theorem kw_322 : Cond.instanceMethod yX6_sameAs ∈ lw_tbl := tb2 (i := 161) rfl
theorem kw_323 : Cond.selects RX6 yX6_sameAs yX6_sameAs ∈ lw_tbl := tsel (i := 25) (q := (⟨"UniverseLevels", "sameAs", "(I)I"⟩, 13)) rfl
theorem kw_324 : ((RX6, 109, yX4_isFloating, "UniverseLevels") : String × Nat × MethodName × String) ∈ nestM := List.mem_of_getElem? (i := 19) rfl
theorem kw_325 : cwOk yX4_isFloating cX4_isFloating 2 (some .boolean) 1 := ⟨tb2 (i := 166) rfl, tb1 (i := 3) rfl, by decide, by decide, by decide +kernel⟩
theorem kw_326 : Cond.instanceMethod yX4_isFloating ∈ lw_tbl := tb2 (i := 165) rfl
theorem kw_327 : Cond.selects RX4 yX4_isFloating yX4_isFloating ∈ lw_tbl := tsel (i := 26) (q := (⟨"UniverseLevels$State", "isFloating", "(I)Z"⟩, 6)) rfl
theorem kw_328 : ((RX6, 90, (TX4 5).1, (TX4 5).2.1, (TX4 5).2.2.1, "UniverseLevels") : String × Nat × String × String × String × String) ∈ nestF := List.mem_of_getElem? (i := 17) rfl
theorem kw_329 : ((RX6, 115, (TX4 1).1, (TX4 1).2.1, (TX4 1).2.2.1, "UniverseLevels") : String × Nat × String × String × String × String) ∈ nestF := List.mem_of_getElem? (i := 5) rfl
theorem kw_330 : Cond.fieldLink RX6 37 (TX6 7).1 (TX6 7).2.1 (TX6 7).2.2.1 ∈ lw_tbl := tb2 (i := 81) rfl
theorem kw_331 : ((RX6, 262, yX4_lengthsFrom, "UniverseLevels") : String × Nat × MethodName × String) ∈ nestM := List.mem_of_getElem? (i := 20) rfl
theorem kw_332 : ((RX6, 118, (TX4 2).1, (TX4 2).2.1, (TX4 2).2.2.1, "UniverseLevels") : String × Nat × String × String × String × String) ∈ nestF := List.mem_of_getElem? (i := 8) rfl
theorem kw_333 : ((RX6, 121, (TX4 3).1, (TX4 3).2.1, (TX4 3).2.2.1, "UniverseLevels") : String × Nat × String × String × String × String) ∈ nestF := List.mem_of_getElem? (i := 11) rfl
theorem kw_334 : ((RX6, 130, yX1_leads, "UniverseLevels") : String × Nat × MethodName × String) ∈ nestM := List.mem_of_getElem? (i := 13) rfl
theorem kw_335 : Cond.methodLink RX6 112 yX6_isBound ∈ lw_tbl := tb2 (i := 171) rfl
theorem kw_336 : cwOk yX6_isBound cX6_isBound 2 (some .boolean) 1 := ⟨tb2 (i := 174) rfl, tb1 (i := 1) rfl, by decide, by decide, by decide +kernel⟩
theorem kw_337 : Cond.instanceMethod yX6_isBound ∈ lw_tbl := tb2 (i := 173) rfl
theorem kw_338 : Cond.selects RX6 yX6_isBound yX6_isBound ∈ lw_tbl := tsel (i := 27) (q := (⟨"UniverseLevels", "isBound", "(I)Z"⟩, 13)) rfl
theorem kw_339 : Cond.methodLink RX6 124 yX6_isNeedless ∈ lw_tbl := tb2 (i := 175) rfl
theorem kw_340 : cwOk yX6_isNeedless cX6_isNeedless 2 (some .boolean) 1 := ⟨tb2 (i := 178) rfl, tb1 (i := 1) rfl, by decide, by decide, by decide +kernel⟩
theorem kw_341 : Cond.instanceMethod yX6_isNeedless ∈ lw_tbl := tb2 (i := 177) rfl
theorem kw_342 : Cond.selects RX6 yX6_isNeedless yX6_isNeedless ∈ lw_tbl := tsel (i := 28) (q := (⟨"UniverseLevels", "isNeedless", "(I)Z"⟩, 13)) rfl
theorem kw_343 : Cond.methodLink RX6 127 yX6_slackOf ∈ lw_tbl := tb2 (i := 180) rfl
theorem kw_344 : cwOk yX6_slackOf cX6_slackOf 4 (some .int) 1 := ⟨tb2 (i := 183) rfl, tb1 (i := 1) rfl, by decide, by decide, by decide +kernel⟩
theorem kw_345 : Cond.instanceMethod yX6_slackOf ∈ lw_tbl := tb2 (i := 182) rfl
theorem kw_346 : Cond.selects RX6 yX6_slackOf yX6_slackOf ∈ lw_tbl := tsel (i := 29) (q := (⟨"UniverseLevels", "slackOf", "(I)I"⟩, 13)) rfl
section
def W_X6_write (cI cS cII : ClassId) (RA : Nat → Nat) (R_u : Int32) (R_q : Int32) (R_r : Int32) (X_c : Nat → Int32) (X_d : Nat → Int32) (X_n : Int32) : va_W := [((RA 0), .inr (6, [.ref (RA 1), .ref (RA 4), .ref (RA 9), .int R_u, .ref (RA 10), .int R_q, .ref (RA 11), .ref (RA 23), .ref (RA 24), .ref (RA 28), .ref (RA 31), .ref (RA 34), .int R_r])), ((RA 1), .inr (5, [.ref (RA 2), .ref (RA 3), .int X_n])), ((RA 2), .inl (cI, 200, .inl X_c)), ((RA 3), .inl (cI, 3, .inl X_d))]
abbrev Rm_X6_write : Room := { frames := 1, cells := 0, slots := 0, locals := 21 }
variable {l : Launch} {D : va_G} {cI cS cII : ClassId} {RA : Nat → Nat} {A : Nat → Prop} {J : jT}
variable {z_r : Int32} {z_X_c : Nat → Int32} {z_X_n : Int32}
def p_X6_write (X_c : Nat → Int32) (X_n : Int32) (a1 : Int32) : Option (Int32 × (Nat → Int32) × Int32) := if a1 < 32 then (some ((-1), X_c, X_n)) else (if a1 ≤ 126 then ((p_X5_append X_c X_n a1).bind fun (r4, g5, g6) => if r4 = 0 then (some ((-3), g5, g6)) else (some (g6, g5, g6))) else (some ((-1), X_c, X_n)))
end
set_option maxRecDepth 100000 in
theorem c_X6_write (l : Launch) (D : va_G) (cI cS cII : ClassId) (RA : Nat → Nat) (R_u : Int32) (R_q : Int32) (R_r : Int32) (X_c : Nat → Int32) (X_d : Nat → Int32) (X_n : Int32) (a1 : Int32) {z_r : Int32} {z_X_c : Nat → Int32} {z_X_n : Int32} (hF : p_X6_write X_c X_n a1 = some (z_r, z_X_c, z_X_n)) : MJ l yX6_write cX6_write 2 (some .int) Rm_X6_write D (tysU cI cS cII) [.ref (RA 0), .int a1] (W_X6_write cI cS cII RA R_u R_q R_r X_c X_d X_n) (some z_r) (W_X6_write cI cS cII RA R_u R_q R_r z_X_c X_d z_X_n) := by
  refine mj_of (own := RX6) (by decide) rfl (Nat.le_of_ble_eq_true rfl) (fun J hJ => ?_)
  show J (W_X6_write cI cS cII RA R_u R_q R_r X_c X_d X_n) 0 [(0, .ref (RA 0)), (1, .int a1)] []
  unfold p_X6_write at hF
  refine jj_iload_n hJ dX6_write_0 1 rfl rfl ?_
  refine jj_bipush hJ dX6_write_1 bp_32 ?_
  refine jj_icmp_lt hJ 12 dX6_write_3 rfl (fun c1 => ?_) (fun c1 => ?_)
  · replace hF := ip c1 hF
    refine jj_iconst hJ dX6_write_12 ic_m1 ?_
    cases Option.some.inj hF
    exact jj_iret hJ dX6_write_13
  · replace hF := iq c1 hF
    refine jj_iload_n hJ dX6_write_6 1 rfl rfl ?_
    refine jj_bipush hJ dX6_write_7 bp_126 ?_
    refine jj_icmp_le hJ 14 dX6_write_9 rfl (fun c2 => ?_) (fun c2 => ?_)
    · replace hF := ip c2 hF
      refine jj_aload_n hJ dX6_write_14 0 rfl rfl ?_
      refine jj_get hJ lay_X6 dX6_write_15 0 0 rfl rfl (Nat.le_of_ble_eq_true rfl) kw_296 rfl ?_
      refine jj_iload_n hJ dX6_write_18 1 rfl rfl ?_
      obtain ⟨⟨r4, g5, g6⟩, h3, hF⟩ := ob hF
      refine jj_callN hJ (c_X5_append l D cI cS cII (fun i => RA (i + 1)) X_c X_d X_n a1 h3) dX6_write_19 kw_298 ⟨Nat.le_of_ble_eq_true rfl, Nat.le_of_ble_eq_true rfl, rfl, rfl⟩ kw_297 kw_299 kw_300 1 rfl rfl rfl rfl (Nat.le_of_ble_eq_true rfl) [1, 2, 3] rfl rfl (wn := (W_X6_write cI cS cII RA R_u R_q R_r g5 X_d g6)) (jNew_sel rfl [none, some 0, some 1, some 2] (by decide +kernel) rfl) ?_
      refine jj_if_eq hJ 35 dX6_write_22 rfl (fun c7 => ?_) (fun c7 => ?_)
      · replace hF := ip c7 hF
        refine jj_bipush hJ dX6_write_35 bp_m3 ?_
        cases Option.some.inj hF
        exact jj_iret hJ dX6_write_37
      · replace hF := iq c7 hF
        refine jj_aload_n hJ dX6_write_25 0 rfl rfl ?_
        refine jj_get hJ lay_X6 dX6_write_26 0 0 rfl rfl (Nat.le_of_ble_eq_true rfl) kw_296 rfl ?_
        refine jj_getN hJ lay_X5 dX6_write_29 1 2 rfl rfl (Nat.le_of_ble_eq_true rfl) kw_301 rfl ?_
        refine jj_goto hJ 37 dX6_write_32 rfl ?_
        cases Option.some.inj hF
        exact jj_iret hJ dX6_write_37
    · replace hF := iq c2 hF
      refine jj_iconst hJ dX6_write_12 ic_m1 ?_
      cases Option.some.inj hF
      exact jj_iret hJ dX6_write_13
section
def W_X6_wipe (cI cS cII : ClassId) (RA : Nat → Nat) (R_u : Int32) (R_q : Int32) (R_r : Int32) (X_c : Nat → Int32) (X_d : Nat → Int32) (X_n : Int32) : va_W := [((RA 0), .inr (6, [.ref (RA 1), .ref (RA 4), .ref (RA 9), .int R_u, .ref (RA 10), .int R_q, .ref (RA 11), .ref (RA 23), .ref (RA 24), .ref (RA 28), .ref (RA 31), .ref (RA 34), .int R_r])), ((RA 1), .inr (5, [.ref (RA 2), .ref (RA 3), .int X_n])), ((RA 2), .inl (cI, 200, .inl X_c)), ((RA 3), .inl (cI, 3, .inl X_d))]
abbrev Rm_X6_wipe : Room := { frames := 0, cells := 0, slots := 0, locals := 0 }
variable {l : Launch} {D : va_G} {cI cS cII : ClassId} {RA : Nat → Nat} {A : Nat → Prop} {J : jT}
variable {z_r : Int32} {z_X_n : Int32}
def p_X6_wipe (X_n : Int32) : Option (Int32 × Int32) := some (X_n, 0)
end
set_option maxRecDepth 100000 in
theorem c_X6_wipe (l : Launch) (D : va_G) (cI cS cII : ClassId) (RA : Nat → Nat) (R_u : Int32) (R_q : Int32) (R_r : Int32) (X_c : Nat → Int32) (X_d : Nat → Int32) (X_n : Int32)  {z_r : Int32} {z_X_n : Int32} (hF : p_X6_wipe X_n = some (z_r, z_X_n)) : MJ l yX6_wipe cX6_wipe 2 (some .int) Rm_X6_wipe D (tysU cI cS cII) [.ref (RA 0)] (W_X6_wipe cI cS cII RA R_u R_q R_r X_c X_d X_n) (some z_r) (W_X6_wipe cI cS cII RA R_u R_q R_r X_c X_d z_X_n) := by
  refine mj_of (own := RX6) (by decide) rfl (Nat.le_of_ble_eq_true rfl) (fun J hJ => ?_)
  show J (W_X6_wipe cI cS cII RA R_u R_q R_r X_c X_d X_n) 0 [(0, .ref (RA 0))] []
  unfold p_X6_wipe at hF
  refine jj_aload_n hJ dX6_wipe_0 0 rfl rfl ?_
  refine jj_get hJ lay_X6 dX6_wipe_1 0 0 rfl rfl (Nat.le_of_ble_eq_true rfl) kw_296 rfl ?_
  refine jj_getN hJ lay_X5 dX6_wipe_4 1 2 rfl rfl (Nat.le_of_ble_eq_true rfl) kw_301 rfl ?_
  refine jj_istore_n hJ dX6_wipe_7 rfl (Nat.le_of_ble_eq_true rfl) (lv' := [(1, .int X_n), (0, .ref (RA 0))]) rfl ?_
  refine jj_aload_n hJ dX6_wipe_8 1 rfl rfl ?_
  refine jj_get hJ lay_X6 dX6_wipe_9 0 0 rfl rfl (Nat.le_of_ble_eq_true rfl) kw_296 rfl ?_
  refine jj_iconst hJ dX6_wipe_12 ic_0 ?_
  refine jj_putN hJ lay_X5 tyX5 tyX5_ok nmX5 dX6_wipe_13 1 2 rfl rfl (Nat.le_of_ble_eq_true rfl) kw_301 rfl rfl (Nat.le_of_ble_eq_true rfl) (wn := (W_X6_wipe cI cS cII RA R_u R_q R_r X_c X_d 0)) rfl ?_
  refine jj_iload_n hJ dX6_wipe_16 0 rfl rfl ?_
  cases Option.some.inj hF
  exact jj_iret hJ dX6_wipe_17
section
def W_X6_fault (cI cS cII : ClassId) (RA : Nat → Nat) (R_u : Int32) (R_q : Int32) (R_r : Int32) (X_c : Nat → Int32) (X_d : Nat → Int32) (X_n : Int32) : va_W := [((RA 0), .inr (6, [.ref (RA 1), .ref (RA 4), .ref (RA 9), .int R_u, .ref (RA 10), .int R_q, .ref (RA 11), .ref (RA 23), .ref (RA 24), .ref (RA 28), .ref (RA 31), .ref (RA 34), .int R_r])), ((RA 1), .inr (5, [.ref (RA 2), .ref (RA 3), .int X_n])), ((RA 2), .inl (cI, 200, .inl X_c)), ((RA 3), .inl (cI, 3, .inl X_d))]
abbrev Rm_X6_fault : Room := { frames := 4, cells := 0, slots := 0, locals := 94 }
variable {l : Launch} {D : va_G} {cI cS cII : ClassId} {RA : Nat → Nat} {A : Nat → Prop} {J : jT}
variable {z_r : Int32} {z_X_d : Nat → Int32}
def p_X6_fault (X_c : Nat → Int32) (X_d : Nat → Int32) (X_n : Int32) : Option (Int32 × (Nat → Int32)) := (p_X5_firstFault X_c X_d X_n).bind fun (r2, g3) => some (r2, g3)
end
set_option maxRecDepth 100000 in
theorem c_X6_fault (l : Launch) (D : va_G) (cI cS cII : ClassId) (RA : Nat → Nat) (R_u : Int32) (R_q : Int32) (R_r : Int32) (X_c : Nat → Int32) (X_d : Nat → Int32) (X_n : Int32)  {z_r : Int32} {z_X_d : Nat → Int32} (hF : p_X6_fault X_c X_d X_n = some (z_r, z_X_d)) : MJ l yX6_fault cX6_fault 1 (some .int) Rm_X6_fault D (tysU cI cS cII) [.ref (RA 0)] (W_X6_fault cI cS cII RA R_u R_q R_r X_c X_d X_n) (some z_r) (W_X6_fault cI cS cII RA R_u R_q R_r X_c z_X_d X_n) := by
  refine mj_of (own := RX6) (by decide) rfl (Nat.le_of_ble_eq_true rfl) (fun J hJ => ?_)
  show J (W_X6_fault cI cS cII RA R_u R_q R_r X_c X_d X_n) 0 [(0, .ref (RA 0))] []
  unfold p_X6_fault at hF
  refine jj_aload_n hJ dX6_fault_0 0 rfl rfl ?_
  refine jj_get hJ lay_X6 dX6_fault_1 0 0 rfl rfl (Nat.le_of_ble_eq_true rfl) kw_296 rfl ?_
  obtain ⟨⟨r2, g3⟩, h1, hF⟩ := ob hF
  refine jj_callN hJ (c_X5_firstFault l D cI cS cII (fun i => RA (i + 1)) X_c X_d X_n  h1) dX6_fault_4 kw_303 ⟨Nat.le_of_ble_eq_true rfl, Nat.le_of_ble_eq_true rfl, rfl, rfl⟩ kw_302 kw_304 kw_305 1 rfl rfl rfl rfl (Nat.le_of_ble_eq_true rfl) [1, 2, 3] rfl rfl (wn := (W_X6_fault cI cS cII RA R_u R_q R_r X_c g3 X_n)) (jNew_sel rfl [none, some 0, some 1, some 2] (by decide +kernel) rfl) ?_
  cases Option.some.inj hF
  exact jj_iret hJ dX6_fault_7
section
def W_X6_isLevel (cI cS cII : ClassId) (RA : Nat → Nat) (R_u : Int32) (R_q : Int32) (R_r : Int32) (N_k : Nat → Int32) (N_f : Nat → Int32) (N_t : Nat → Int32) (N_w : Nat → Int32) (N_l : Int32) (N_b : Int32) : va_W := [((RA 0), .inr (6, [.ref (RA 1), .ref (RA 4), .ref (RA 9), .int R_u, .ref (RA 10), .int R_q, .ref (RA 11), .ref (RA 23), .ref (RA 24), .ref (RA 28), .ref (RA 31), .ref (RA 34), .int R_r])), ((RA 4), .inr (4, [.ref (RA 5), .ref (RA 6), .ref (RA 7), .ref (RA 8), .int N_l, .int N_b])), ((RA 5), .inl (cI, 10, .inl N_k)), ((RA 6), .inl (cI, 16, .inl N_f)), ((RA 7), .inl (cI, 16, .inl N_t)), ((RA 8), .inl (cI, 16, .inl N_w))]
abbrev Rm_X6_isLevel : Room := { frames := 0, cells := 0, slots := 0, locals := 0 }
variable {l : Launch} {D : va_G} {cI cS cII : ClassId} {RA : Nat → Nat} {A : Nat → Prop} {J : jT}
variable {z_r : Int32}
def p_X6_isLevel (N_l : Int32) (a1 : Int32) : Option (Int32) := if a1 < 0 then (some 0) else (if N_l ≤ a1 then (some 0) else (some 1))
end
set_option maxRecDepth 100000 in
theorem c_X6_isLevel (l : Launch) (D : va_G) (cI cS cII : ClassId) (RA : Nat → Nat) (R_u : Int32) (R_q : Int32) (R_r : Int32) (N_k : Nat → Int32) (N_f : Nat → Int32) (N_t : Nat → Int32) (N_w : Nat → Int32) (N_l : Int32) (N_b : Int32) (a1 : Int32) {z_r : Int32} (hF : p_X6_isLevel N_l a1 = some z_r) : MJ l yX6_isLevel cX6_isLevel 2 (some .boolean) Rm_X6_isLevel D (tysU cI cS cII) [.ref (RA 0), .int a1] (W_X6_isLevel cI cS cII RA R_u R_q R_r N_k N_f N_t N_w N_l N_b) (some z_r) (W_X6_isLevel cI cS cII RA R_u R_q R_r N_k N_f N_t N_w N_l N_b) := by
  refine mj_of (own := RX6) (by decide) rfl (Nat.le_of_ble_eq_true rfl) (fun J hJ => ?_)
  show J (W_X6_isLevel cI cS cII RA R_u R_q R_r N_k N_f N_t N_w N_l N_b) 0 [(0, .ref (RA 0)), (1, .int a1)] []
  unfold p_X6_isLevel at hF
  refine jj_iload_n hJ dX6_isLevel_0 1 rfl rfl ?_
  refine jj_if_lt hJ 19 dX6_isLevel_1 rfl (fun c1 => ?_) (fun c1 => ?_)
  · replace hF := ip c1 hF
    refine jj_iconst hJ dX6_isLevel_19 ic_0 ?_
    cases Option.some.inj hF
    exact jj_zret hJ (Or.inl rfl) dX6_isLevel_20
  · replace hF := iq c1 hF
    refine jj_iload_n hJ dX6_isLevel_4 1 rfl rfl ?_
    refine jj_aload_n hJ dX6_isLevel_5 0 rfl rfl ?_
    refine jj_get hJ lay_X6 dX6_isLevel_6 0 1 rfl rfl (Nat.le_of_ble_eq_true rfl) kw_306 rfl ?_
    refine jj_getN hJ lay_X4 dX6_isLevel_9 1 4 rfl rfl (Nat.le_of_ble_eq_true rfl) kw_307 rfl ?_
    refine jj_icmp_ge hJ 19 dX6_isLevel_12 rfl (fun c2 => ?_) (fun c2 => ?_)
    · replace hF := ip c2 hF
      refine jj_iconst hJ dX6_isLevel_19 ic_0 ?_
      cases Option.some.inj hF
      exact jj_zret hJ (Or.inl rfl) dX6_isLevel_20
    · replace hF := iq c2 hF
      refine jj_iconst hJ dX6_isLevel_15 ic_1 ?_
      refine jj_goto hJ 20 dX6_isLevel_16 rfl ?_
      cases Option.some.inj hF
      exact jj_zret hJ (Or.inr rfl) dX6_isLevel_20
section
def W_X6_placeOf (cI cS cII : ClassId) (RA : Nat → Nat) (R_u : Int32) (R_q : Int32) (R_r : Int32) (N_k : Nat → Int32) (N_f : Nat → Int32) (N_t : Nat → Int32) (N_w : Nat → Int32) (N_l : Int32) (N_b : Int32) (L_G : Nat → Nat → Int32) (L_l : Int32) : va_W := ([((RA 0), .inr (6, [.ref (RA 1), .ref (RA 4), .ref (RA 9), .int R_u, .ref (RA 10), .int R_q, .ref (RA 11), .ref (RA 23), .ref (RA 24), .ref (RA 28), .ref (RA 31), .ref (RA 34), .int R_r])), ((RA 4), .inr (4, [.ref (RA 5), .ref (RA 6), .ref (RA 7), .ref (RA 8), .int N_l, .int N_b])), ((RA 5), .inl (cI, 10, .inl N_k)), ((RA 6), .inl (cI, 16, .inl N_f)), ((RA 7), .inl (cI, 16, .inl N_t)), ((RA 8), .inl (cI, 16, .inl N_w)), ((RA 11), .inr (1, [.ref (RA 12), .int L_l])), ((RA 12), .inl (cII, 10, .inr (.inr (.inr (.inr (fun i => some (RA (i + 13))))))))] ++ rw10 cI (fun i => RA (i + 13)) L_G)
abbrev Rm_X6_placeOf : Room := { frames := 2, cells := 0, slots := 0, locals := 44 }
variable {l : Launch} {D : va_G} {cI cS cII : ClassId} {RA : Nat → Nat} {A : Nat → Prop} {J : jT}
variable {z_r : Int32}
def q_X6_placeOf_14 (N_l : Int32) (L_G : Nat → Nat → Int32) (L_l : Int32) (a1 : Int32)  : Nat → Int32 → Int32 → Int32 → Option (Int32)
  | 0, _, _, _ => none
  | n + 1, v4, v3, v2 => if N_l ≤ v4 then (some v3) else ((p_X1_valueOf L_G L_l v4).bind fun r3 => if r3 < v2 then (q_X6_placeOf_14 N_l L_G L_l a1 n (v4 + 1) (v3 + 1) v2) else (if r3 = v2 then (if a1 ≤ v4 then (q_X6_placeOf_14 N_l L_G L_l a1 n (v4 + 1) v3 v2) else (q_X6_placeOf_14 N_l L_G L_l a1 n (v4 + 1) (v3 + 1) v2)) else (q_X6_placeOf_14 N_l L_G L_l a1 n (v4 + 1) v3 v2)))
set_option maxRecDepth 100000 in
theorem w_X6_placeOf_14 {R_u : Int32} {R_q : Int32} {R_r : Int32} {N_k : Nat → Int32} {N_f : Nat → Int32} {N_t : Nat → Int32} {N_w : Nat → Int32} {N_l : Int32} {N_b : Int32} {L_G : Nat → Nat → Int32} {L_l : Int32} {a1 : Int32}  (hJ : jJ l cX6_placeOf 6 D (tysU cI cS cII) RX6 Rm_X6_placeOf (some .int) A (some z_r) (W_X6_placeOf cI cS cII RA R_u R_q R_r N_k N_f N_t N_w N_l N_b L_G L_l) J)  : ∀ (n : Nat) (v4 : Int32) (v3 : Int32) (v2 : Int32), q_X6_placeOf_14 N_l L_G L_l a1 n v4 v3 v2 = some z_r → J (W_X6_placeOf cI cS cII RA R_u R_q R_r N_k N_f N_t N_w N_l N_b L_G L_l) 14 [(4, .int v4), (3, .int v3), (2, .int v2), (0, .ref (RA 0)), (1, .int a1)] [] := by
  intro n
  induction n with
  | zero =>
    intro v4 v3 v2 hF
    exact no_some (show (none : Option (Int32)) = some z_r from hF)
  | succ n ih =>
    intro v4 v3 v2 hF
    rw [q_X6_placeOf_14.eq_2] at hF
    refine jj_iload hJ dX6_placeOf_14 0 rfl ?_
    refine jj_aload_n hJ dX6_placeOf_16 3 rfl rfl ?_
    refine jj_get hJ lay_X6 dX6_placeOf_17 0 1 rfl rfl (Nat.le_of_ble_eq_true rfl) kw_306 rfl ?_
    refine jj_getN hJ lay_X4 dX6_placeOf_20 1 4 rfl rfl (Nat.le_of_ble_eq_true rfl) kw_307 rfl ?_
    refine jj_icmp_ge hJ 64 dX6_placeOf_23 rfl (fun c1 => ?_) (fun c1 => ?_)
    · replace hF := ip c1 hF
      refine jj_iload_n hJ dX6_placeOf_64 1 rfl rfl ?_
      cases Option.some.inj hF
      exact jj_iret hJ dX6_placeOf_65
    · replace hF := iq c1 hF
      refine jj_aload_n hJ dX6_placeOf_26 3 rfl rfl ?_
      refine jj_get hJ lay_X6 dX6_placeOf_27 0 6 rfl rfl (Nat.le_of_ble_eq_true rfl) kw_308 rfl ?_
      refine jj_iload hJ dX6_placeOf_30 0 rfl ?_
      obtain ⟨r3, h2, hF⟩ := ob hF
      refine jj_callN0 hJ (c_X1_valueOf l D cI cS cII (fun i => RA (i + 11)) L_G L_l v4 h2) dX6_placeOf_32 kw_35 ⟨Nat.le_of_ble_eq_true rfl, Nat.le_of_ble_eq_true rfl, rfl, rfl⟩ kw_309 kw_36 kw_37 6 rfl rfl rfl rfl (Nat.le_of_ble_eq_true rfl) [6, 7, 8, 9, 10, 11, 12, 13, 14, 15, 16, 17] rfl rfl ?_
      refine jj_istore hJ dX6_placeOf_35 (Nat.le_of_ble_eq_true rfl) (lv' := [(5, .int r3), (4, .int v4), (3, .int v3), (2, .int v2), (0, .ref (RA 0)), (1, .int a1)]) rfl ?_
      refine jj_iload hJ dX6_placeOf_37 0 rfl ?_
      refine jj_iload_n hJ dX6_placeOf_39 3 rfl rfl ?_
      refine jj_icmp_lt hJ 55 dX6_placeOf_40 rfl (fun c4 => ?_) (fun c4 => ?_)
      · replace hF := ip c4 hF
        refine jj_iinc hJ dX6_placeOf_55 2 rfl (v := v3 + 1) (by rw [ic_1]) (Nat.le_of_ble_eq_true rfl) (lv' := [(3, .int (v3 + 1)), (5, .int r3), (4, .int v4), (2, .int v2), (0, .ref (RA 0)), (1, .int a1)]) rfl ?_
        refine jj_iinc hJ dX6_placeOf_58 2 rfl (v := v4 + 1) (by rw [ic_1]) (Nat.le_of_ble_eq_true rfl) (lv' := [(4, .int (v4 + 1)), (3, .int (v3 + 1)), (5, .int r3), (2, .int v2), (0, .ref (RA 0)), (1, .int a1)]) rfl ?_
        refine jj_goto hJ 14 dX6_placeOf_61 rfl ?_
        refine jj_lv hJ [0, 1, 3, 4, 5] (lv' := [(4, .int (v4 + 1)), (3, .int (v3 + 1)), (2, .int v2), (0, .ref (RA 0)), (1, .int a1)]) rfl ?_
        exact ih (v4 + 1) (v3 + 1) v2 hF
      · replace hF := iq c4 hF
        refine jj_iload hJ dX6_placeOf_43 0 rfl ?_
        refine jj_iload_n hJ dX6_placeOf_45 3 rfl rfl ?_
        refine jj_icmp_ne hJ 58 dX6_placeOf_46 rfl (fun c5 => ?_) (fun c5 => ?_)
        · replace hF := iq c5 hF
          refine jj_iinc hJ dX6_placeOf_58 1 rfl (v := v4 + 1) (by rw [ic_1]) (Nat.le_of_ble_eq_true rfl) (lv' := [(4, .int (v4 + 1)), (5, .int r3), (3, .int v3), (2, .int v2), (0, .ref (RA 0)), (1, .int a1)]) rfl ?_
          refine jj_goto hJ 14 dX6_placeOf_61 rfl ?_
          refine jj_lv hJ [0, 2, 3, 4, 5] (lv' := [(4, .int (v4 + 1)), (3, .int v3), (2, .int v2), (0, .ref (RA 0)), (1, .int a1)]) rfl ?_
          exact ih (v4 + 1) v3 v2 hF
        · replace hF := ip c5 hF
          refine jj_iload hJ dX6_placeOf_49 1 rfl ?_
          refine jj_iload_n hJ dX6_placeOf_51 5 rfl rfl ?_
          refine jj_icmp_ge hJ 58 dX6_placeOf_52 rfl (fun c6 => ?_) (fun c6 => ?_)
          · replace hF := ip c6 hF
            refine jj_iinc hJ dX6_placeOf_58 1 rfl (v := v4 + 1) (by rw [ic_1]) (Nat.le_of_ble_eq_true rfl) (lv' := [(4, .int (v4 + 1)), (5, .int r3), (3, .int v3), (2, .int v2), (0, .ref (RA 0)), (1, .int a1)]) rfl ?_
            refine jj_goto hJ 14 dX6_placeOf_61 rfl ?_
            refine jj_lv hJ [0, 2, 3, 4, 5] (lv' := [(4, .int (v4 + 1)), (3, .int v3), (2, .int v2), (0, .ref (RA 0)), (1, .int a1)]) rfl ?_
            exact ih (v4 + 1) v3 v2 hF
          · replace hF := iq c6 hF
            refine jj_iinc hJ dX6_placeOf_55 2 rfl (v := v3 + 1) (by rw [ic_1]) (Nat.le_of_ble_eq_true rfl) (lv' := [(3, .int (v3 + 1)), (5, .int r3), (4, .int v4), (2, .int v2), (0, .ref (RA 0)), (1, .int a1)]) rfl ?_
            refine jj_iinc hJ dX6_placeOf_58 2 rfl (v := v4 + 1) (by rw [ic_1]) (Nat.le_of_ble_eq_true rfl) (lv' := [(4, .int (v4 + 1)), (3, .int (v3 + 1)), (5, .int r3), (2, .int v2), (0, .ref (RA 0)), (1, .int a1)]) rfl ?_
            refine jj_goto hJ 14 dX6_placeOf_61 rfl ?_
            refine jj_lv hJ [0, 1, 3, 4, 5] (lv' := [(4, .int (v4 + 1)), (3, .int (v3 + 1)), (2, .int v2), (0, .ref (RA 0)), (1, .int a1)]) rfl ?_
            exact ih (v4 + 1) (v3 + 1) v2 hF
def p_X6_placeOf (N_l : Int32) (L_G : Nat → Nat → Int32) (L_l : Int32) (a1 : Int32) : Option (Int32) := (p_X1_valueOf L_G L_l a1).bind fun r2 => q_X6_placeOf_14 N_l L_G L_l a1 FU 0 0 r2
end
set_option maxRecDepth 100000 in
theorem c_X6_placeOf (l : Launch) (D : va_G) (cI cS cII : ClassId) (RA : Nat → Nat) (R_u : Int32) (R_q : Int32) (R_r : Int32) (N_k : Nat → Int32) (N_f : Nat → Int32) (N_t : Nat → Int32) (N_w : Nat → Int32) (N_l : Int32) (N_b : Int32) (L_G : Nat → Nat → Int32) (L_l : Int32) (a1 : Int32) {z_r : Int32} (hF : p_X6_placeOf N_l L_G L_l a1 = some z_r) : MJ l yX6_placeOf cX6_placeOf 6 (some .int) Rm_X6_placeOf D (tysU cI cS cII) [.ref (RA 0), .int a1] (W_X6_placeOf cI cS cII RA R_u R_q R_r N_k N_f N_t N_w N_l N_b L_G L_l) (some z_r) (W_X6_placeOf cI cS cII RA R_u R_q R_r N_k N_f N_t N_w N_l N_b L_G L_l) := by
  refine mj_of (own := RX6) (by decide) rfl (Nat.le_of_ble_eq_true rfl) (fun J hJ => ?_)
  show J (W_X6_placeOf cI cS cII RA R_u R_q R_r N_k N_f N_t N_w N_l N_b L_G L_l) 0 [(0, .ref (RA 0)), (1, .int a1)] []
  unfold p_X6_placeOf at hF
  refine jj_aload_n hJ dX6_placeOf_0 0 rfl rfl ?_
  refine jj_get hJ lay_X6 dX6_placeOf_1 0 6 rfl rfl (Nat.le_of_ble_eq_true rfl) kw_308 rfl ?_
  refine jj_iload_n hJ dX6_placeOf_4 1 rfl rfl ?_
  obtain ⟨r2, h1, hF⟩ := ob hF
  refine jj_callN0 hJ (c_X1_valueOf l D cI cS cII (fun i => RA (i + 11)) L_G L_l a1 h1) dX6_placeOf_5 kw_35 ⟨Nat.le_of_ble_eq_true rfl, Nat.le_of_ble_eq_true rfl, rfl, rfl⟩ kw_309 kw_36 kw_37 6 rfl rfl rfl rfl (Nat.le_of_ble_eq_true rfl) [6, 7, 8, 9, 10, 11, 12, 13, 14, 15, 16, 17] rfl rfl ?_
  refine jj_istore_n hJ dX6_placeOf_8 rfl (Nat.le_of_ble_eq_true rfl) (lv' := [(2, .int r2), (0, .ref (RA 0)), (1, .int a1)]) rfl ?_
  refine jj_iconst hJ dX6_placeOf_9 ic_0 ?_
  refine jj_istore_n hJ dX6_placeOf_10 rfl (Nat.le_of_ble_eq_true rfl) (lv' := [(3, .int 0), (2, .int r2), (0, .ref (RA 0)), (1, .int a1)]) rfl ?_
  refine jj_iconst hJ dX6_placeOf_11 ic_0 ?_
  refine jj_istore hJ dX6_placeOf_12 (Nat.le_of_ble_eq_true rfl) (lv' := [(4, .int 0), (3, .int 0), (2, .int r2), (0, .ref (RA 0)), (1, .int a1)]) rfl ?_
  exact w_X6_placeOf_14 hJ  FU 0 0 r2 hF
section
def W_X6_sameAs (cI cS cII : ClassId) (RA : Nat → Nat) (R_u : Int32) (R_q : Int32) (R_r : Int32) (N_k : Nat → Int32) (N_f : Nat → Int32) (N_t : Nat → Int32) (N_w : Nat → Int32) (N_l : Int32) (N_b : Int32) (L_G : Nat → Nat → Int32) (L_l : Int32) : va_W := ([((RA 0), .inr (6, [.ref (RA 1), .ref (RA 4), .ref (RA 9), .int R_u, .ref (RA 10), .int R_q, .ref (RA 11), .ref (RA 23), .ref (RA 24), .ref (RA 28), .ref (RA 31), .ref (RA 34), .int R_r])), ((RA 4), .inr (4, [.ref (RA 5), .ref (RA 6), .ref (RA 7), .ref (RA 8), .int N_l, .int N_b])), ((RA 5), .inl (cI, 10, .inl N_k)), ((RA 6), .inl (cI, 16, .inl N_f)), ((RA 7), .inl (cI, 16, .inl N_t)), ((RA 8), .inl (cI, 16, .inl N_w)), ((RA 11), .inr (1, [.ref (RA 12), .int L_l])), ((RA 12), .inl (cII, 10, .inr (.inr (.inr (.inr (fun i => some (RA (i + 13))))))))] ++ rw10 cI (fun i => RA (i + 13)) L_G)
abbrev Rm_X6_sameAs : Room := { frames := 0, cells := 0, slots := 0, locals := 0 }
variable {l : Launch} {D : va_G} {cI cS cII : ClassId} {RA : Nat → Nat} {A : Nat → Prop} {J : jT}
variable {z_r : Int32}
def q_X6_sameAs_4 (N_l : Int32) (L_G : Nat → Nat → Int32) (a1 : Int32)  : Nat → Int32 → Int32 → Option (Int32)
  | 0, _, _ => none
  | n + 1, v3, v2 => if N_l ≤ v3 then (some v2) else ((ix 10 a1).bind fun j2 => (rd (L_G j2) 10 v3).bind fun x4 => if x4 = 0 then ((ix 10 v3).bind fun j7 => (rd (L_G j7) 10 a1).bind fun x9 => if x9 = 0 then (q_X6_sameAs_4 N_l L_G a1 n (v3 + 1) (v2 ||| (1 <<< (v3 &&& 31)))) else (q_X6_sameAs_4 N_l L_G a1 n (v3 + 1) v2)) else (q_X6_sameAs_4 N_l L_G a1 n (v3 + 1) v2))
set_option maxRecDepth 100000 in
theorem w_X6_sameAs_4 {R_u : Int32} {R_q : Int32} {R_r : Int32} {N_k : Nat → Int32} {N_f : Nat → Int32} {N_t : Nat → Int32} {N_w : Nat → Int32} {N_l : Int32} {N_b : Int32} {L_G : Nat → Nat → Int32} {L_l : Int32} {a1 : Int32}  (hJ : jJ l cX6_sameAs 4 D (tysU cI cS cII) RX6 Rm_X6_sameAs (some .int) A (some z_r) (W_X6_sameAs cI cS cII RA R_u R_q R_r N_k N_f N_t N_w N_l N_b L_G L_l) J)  : ∀ (n : Nat) (v3 : Int32) (v2 : Int32), q_X6_sameAs_4 N_l L_G a1 n v3 v2 = some z_r → J (W_X6_sameAs cI cS cII RA R_u R_q R_r N_k N_f N_t N_w N_l N_b L_G L_l) 4 [(3, .int v3), (2, .int v2), (0, .ref (RA 0)), (1, .int a1)] [] := by
  intro n
  induction n with
  | zero =>
    intro v3 v2 hF
    exact no_some (show (none : Option (Int32)) = some z_r from hF)
  | succ n ih =>
    intro v3 v2 hF
    rw [q_X6_sameAs_4.eq_2] at hF
    refine jj_iload_n hJ dX6_sameAs_4 0 rfl rfl ?_
    refine jj_aload_n hJ dX6_sameAs_5 2 rfl rfl ?_
    refine jj_get hJ lay_X6 dX6_sameAs_6 0 1 rfl rfl (Nat.le_of_ble_eq_true rfl) kw_306 rfl ?_
    refine jj_getN hJ lay_X4 dX6_sameAs_9 1 4 rfl rfl (Nat.le_of_ble_eq_true rfl) kw_307 rfl ?_
    refine jj_icmp_ge hJ 55 dX6_sameAs_12 rfl (fun c1 => ?_) (fun c1 => ?_)
    · replace hF := ip c1 hF
      refine jj_iload_n hJ dX6_sameAs_55 1 rfl rfl ?_
      cases Option.some.inj hF
      exact jj_iret hJ dX6_sameAs_56
    · replace hF := iq c1 hF
      refine jj_aload_n hJ dX6_sameAs_15 2 rfl rfl ?_
      refine jj_get hJ lay_X6 dX6_sameAs_16 0 6 rfl rfl (Nat.le_of_ble_eq_true rfl) kw_308 rfl ?_
      refine jj_getN hJ lay_X1 dX6_sameAs_19 6 0 rfl rfl (Nat.le_of_ble_eq_true rfl) kw_310 rfl ?_
      refine jj_iload_n hJ dX6_sameAs_22 3 rfl rfl ?_
      obtain ⟨j2, h3, hF⟩ := ob hF
      refine jj_aald hJ dX6_sameAs_23 7 2 rfl rfl rfl (ix_some h3).1 (congrArg (fun i => some (RA (i + 13))) (ix_some h3).2.1) ?_
      refine jj_iload_n hJ dX6_sameAs_24 0 rfl rfl ?_
      obtain ⟨x4, h5, hF⟩ := ob hF
      refine jj_iald hJ dX6_sameAs_25 (8 + j2) 0 (rw10_get _ (ix_some h3).2.2) rfl h5 ?_
      refine jj_if_ne hJ 49 dX6_sameAs_26 rfl (fun c6 => ?_) (fun c6 => ?_)
      · replace hF := iq c6 hF
        refine jj_iinc hJ dX6_sameAs_49 0 rfl (v := v3 + 1) (by rw [ic_1]) (Nat.le_of_ble_eq_true rfl) (lv' := [(3, .int (v3 + 1)), (2, .int v2), (0, .ref (RA 0)), (1, .int a1)]) rfl ?_
        refine jj_goto hJ 4 dX6_sameAs_52 rfl ?_
        exact ih (v3 + 1) v2 hF
      · replace hF := ip c6 hF
        refine jj_aload_n hJ dX6_sameAs_29 2 rfl rfl ?_
        refine jj_get hJ lay_X6 dX6_sameAs_30 0 6 rfl rfl (Nat.le_of_ble_eq_true rfl) kw_308 rfl ?_
        refine jj_getN hJ lay_X1 dX6_sameAs_33 6 0 rfl rfl (Nat.le_of_ble_eq_true rfl) kw_310 rfl ?_
        refine jj_iload_n hJ dX6_sameAs_36 0 rfl rfl ?_
        obtain ⟨j7, h8, hF⟩ := ob hF
        refine jj_aald hJ dX6_sameAs_37 7 2 rfl rfl rfl (ix_some h8).1 (congrArg (fun i => some (RA (i + 13))) (ix_some h8).2.1) ?_
        refine jj_iload_n hJ dX6_sameAs_38 3 rfl rfl ?_
        obtain ⟨x9, h10, hF⟩ := ob hF
        refine jj_iald hJ dX6_sameAs_39 (8 + j7) 0 (rw10_get _ (ix_some h8).2.2) rfl h10 ?_
        refine jj_if_ne hJ 49 dX6_sameAs_40 rfl (fun c11 => ?_) (fun c11 => ?_)
        · replace hF := iq c11 hF
          refine jj_iinc hJ dX6_sameAs_49 0 rfl (v := v3 + 1) (by rw [ic_1]) (Nat.le_of_ble_eq_true rfl) (lv' := [(3, .int (v3 + 1)), (2, .int v2), (0, .ref (RA 0)), (1, .int a1)]) rfl ?_
          refine jj_goto hJ 4 dX6_sameAs_52 rfl ?_
          exact ih (v3 + 1) v2 hF
        · replace hF := ip c11 hF
          refine jj_iload_n hJ dX6_sameAs_43 1 rfl rfl ?_
          refine jj_iconst hJ dX6_sameAs_44 ic_1 ?_
          refine jj_iload_n hJ dX6_sameAs_45 0 rfl rfl ?_
          refine jj_ishl hJ dX6_sameAs_46 ?_
          refine jj_ior hJ dX6_sameAs_47 ?_
          refine jj_istore_n hJ dX6_sameAs_48 rfl (Nat.le_of_ble_eq_true rfl) (lv' := [(2, .int (v2 ||| (1 <<< (v3 &&& 31)))), (3, .int v3), (0, .ref (RA 0)), (1, .int a1)]) rfl ?_
          refine jj_iinc hJ dX6_sameAs_49 1 rfl (v := v3 + 1) (by rw [ic_1]) (Nat.le_of_ble_eq_true rfl) (lv' := [(3, .int (v3 + 1)), (2, .int (v2 ||| (1 <<< (v3 &&& 31)))), (0, .ref (RA 0)), (1, .int a1)]) rfl ?_
          refine jj_goto hJ 4 dX6_sameAs_52 rfl ?_
          exact ih (v3 + 1) (v2 ||| (1 <<< (v3 &&& 31))) hF
def p_X6_sameAs (N_l : Int32) (L_G : Nat → Nat → Int32) (a1 : Int32) : Option (Int32) := q_X6_sameAs_4 N_l L_G a1 FU 0 0
end
set_option maxRecDepth 100000 in
theorem c_X6_sameAs (l : Launch) (D : va_G) (cI cS cII : ClassId) (RA : Nat → Nat) (R_u : Int32) (R_q : Int32) (R_r : Int32) (N_k : Nat → Int32) (N_f : Nat → Int32) (N_t : Nat → Int32) (N_w : Nat → Int32) (N_l : Int32) (N_b : Int32) (L_G : Nat → Nat → Int32) (L_l : Int32) (a1 : Int32) {z_r : Int32} (hF : p_X6_sameAs N_l L_G a1 = some z_r) : MJ l yX6_sameAs cX6_sameAs 4 (some .int) Rm_X6_sameAs D (tysU cI cS cII) [.ref (RA 0), .int a1] (W_X6_sameAs cI cS cII RA R_u R_q R_r N_k N_f N_t N_w N_l N_b L_G L_l) (some z_r) (W_X6_sameAs cI cS cII RA R_u R_q R_r N_k N_f N_t N_w N_l N_b L_G L_l) := by
  refine mj_of (own := RX6) (by decide) rfl (Nat.le_of_ble_eq_true rfl) (fun J hJ => ?_)
  show J (W_X6_sameAs cI cS cII RA R_u R_q R_r N_k N_f N_t N_w N_l N_b L_G L_l) 0 [(0, .ref (RA 0)), (1, .int a1)] []
  unfold p_X6_sameAs at hF
  refine jj_iconst hJ dX6_sameAs_0 ic_0 ?_
  refine jj_istore_n hJ dX6_sameAs_1 rfl (Nat.le_of_ble_eq_true rfl) (lv' := [(2, .int 0), (0, .ref (RA 0)), (1, .int a1)]) rfl ?_
  refine jj_iconst hJ dX6_sameAs_2 ic_0 ?_
  refine jj_istore_n hJ dX6_sameAs_3 rfl (Nat.le_of_ble_eq_true rfl) (lv' := [(3, .int 0), (2, .int 0), (0, .ref (RA 0)), (1, .int a1)]) rfl ?_
  exact w_X6_sameAs_4 hJ  FU 0 0 hF
section
def W_X6_level (cI cS cII : ClassId) (RA : Nat → Nat) (R_u : Int32) (R_q : Int32) (R_r : Int32) (N_k : Nat → Int32) (N_f : Nat → Int32) (N_t : Nat → Int32) (N_w : Nat → Int32) (N_l : Int32) (N_b : Int32) (L_G : Nat → Nat → Int32) (L_l : Int32) : va_W := ([((RA 0), .inr (6, [.ref (RA 1), .ref (RA 4), .ref (RA 9), .int R_u, .ref (RA 10), .int R_q, .ref (RA 11), .ref (RA 23), .ref (RA 24), .ref (RA 28), .ref (RA 31), .ref (RA 34), .int R_r])), ((RA 4), .inr (4, [.ref (RA 5), .ref (RA 6), .ref (RA 7), .ref (RA 8), .int N_l, .int N_b])), ((RA 5), .inl (cI, 10, .inl N_k)), ((RA 6), .inl (cI, 16, .inl N_f)), ((RA 7), .inl (cI, 16, .inl N_t)), ((RA 8), .inl (cI, 16, .inl N_w)), ((RA 11), .inr (1, [.ref (RA 12), .int L_l])), ((RA 12), .inl (cII, 10, .inr (.inr (.inr (.inr (fun i => some (RA (i + 13))))))))] ++ rw10 cI (fun i => RA (i + 13)) L_G)
abbrev Rm_X6_level : Room := { frames := 3, cells := 0, slots := 0, locals := 69 }
variable {l : Launch} {D : va_G} {cI cS cII : ClassId} {RA : Nat → Nat} {A : Nat → Prop} {J : jT}
variable {z_r : Int32}
def p_X6_level (N_k : Nat → Int32) (N_l : Int32) (L_G : Nat → Nat → Int32) (L_l : Int32) (a1 : Int32) (a2 : Int32) : Option (Int32) := (p_X6_isLevel N_l a1).bind fun r2 => if r2 = 0 then (some ((-1))) else (if a2 = 0 then ((rd N_k 10 a1).bind fun x5 => some x5) else if a2 = 1 then ((p_X1_valueOf L_G L_l a1).bind fun r9 => some r9) else if a2 = 2 then ((p_X6_placeOf N_l L_G L_l a1).bind fun r12 => some r12) else if a2 = 3 then ((p_X6_sameAs N_l L_G a1).bind fun r15 => some r15) else if a2 = 4 then ((p_X4_isFloating N_k a1).bind fun r18 => if r18 = 0 then (some 0) else (some 1)) else (some ((-1))))
end
set_option maxRecDepth 100000 in
theorem c_X6_level (l : Launch) (D : va_G) (cI cS cII : ClassId) (RA : Nat → Nat) (R_u : Int32) (R_q : Int32) (R_r : Int32) (N_k : Nat → Int32) (N_f : Nat → Int32) (N_t : Nat → Int32) (N_w : Nat → Int32) (N_l : Int32) (N_b : Int32) (L_G : Nat → Nat → Int32) (L_l : Int32) (a1 : Int32) (a2 : Int32) {z_r : Int32} (hF : p_X6_level N_k N_l L_G L_l a1 a2 = some z_r) : MJ l yX6_level cX6_level 3 (some .int) Rm_X6_level D (tysU cI cS cII) [.ref (RA 0), .int a1, .int a2] (W_X6_level cI cS cII RA R_u R_q R_r N_k N_f N_t N_w N_l N_b L_G L_l) (some z_r) (W_X6_level cI cS cII RA R_u R_q R_r N_k N_f N_t N_w N_l N_b L_G L_l) := by
  refine mj_of (own := RX6) (by decide) rfl (Nat.le_of_ble_eq_true rfl) (fun J hJ => ?_)
  show J (W_X6_level cI cS cII RA R_u R_q R_r N_k N_f N_t N_w N_l N_b L_G L_l) 0 [(0, .ref (RA 0)), (1, .int a1), (2, .int a2)] []
  unfold p_X6_level at hF
  refine jj_aload_n hJ dX6_level_0 0 rfl rfl ?_
  refine jj_iload_n hJ dX6_level_1 1 rfl rfl ?_
  obtain ⟨r2, h1, hF⟩ := ob hF
  refine jj_callV0 hJ (c_X6_isLevel l D cI cS cII RA R_u R_q R_r N_k N_f N_t N_w N_l N_b a1 h1) dX6_level_2 kw_312 ⟨Nat.le_of_ble_eq_true rfl, Nat.le_of_ble_eq_true rfl, rfl, rfl⟩ kw_311 kw_313 kw_314 0 rfl rfl rfl rfl (Nat.le_of_ble_eq_true rfl) [0, 1, 2, 3, 4, 5] rfl rfl ?_
  refine jj_if_ne hJ 10 dX6_level_5 rfl (fun c3 => ?_) (fun c3 => ?_)
  · replace hF := iq c3 hF
    refine jj_iload_n hJ dX6_level_10 2 rfl rfl ?_
    by_cases c4 : a2 = 0
    · replace hF := ip c4 hF
      refine jj_tin hJ 44 dX6_level_11 (by rw [c4] <;> decide) (by rw [c4] <;> decide) (by rw [c4] <;> rfl) rfl ?_
      refine jj_aload_n hJ dX6_level_44 0 rfl rfl ?_
      refine jj_get hJ lay_X6 dX6_level_45 0 1 rfl rfl (Nat.le_of_ble_eq_true rfl) kw_306 rfl ?_
      refine jj_getN hJ lay_X4 dX6_level_48 1 0 rfl rfl (Nat.le_of_ble_eq_true rfl) kw_315 rfl ?_
      refine jj_iload_n hJ dX6_level_51 1 rfl rfl ?_
      obtain ⟨x5, h6, hF⟩ := ob hF
      refine jj_iald hJ dX6_level_52 2 0 rfl rfl h6 ?_
      cases Option.some.inj hF
      exact jj_iret hJ dX6_level_53
    replace hF := iq c4 hF
    by_cases c7 : a2 = 1
    · replace hF := ip c7 hF
      refine jj_tin hJ 54 dX6_level_11 (by rw [c7] <;> decide) (by rw [c7] <;> decide) (by rw [c7] <;> rfl) rfl ?_
      refine jj_aload_n hJ dX6_level_54 0 rfl rfl ?_
      refine jj_get hJ lay_X6 dX6_level_55 0 6 rfl rfl (Nat.le_of_ble_eq_true rfl) kw_308 rfl ?_
      refine jj_iload_n hJ dX6_level_58 1 rfl rfl ?_
      obtain ⟨r9, h8, hF⟩ := ob hF
      refine jj_callN0 hJ (c_X1_valueOf l D cI cS cII (fun i => RA (i + 11)) L_G L_l a1 h8) dX6_level_59 kw_35 ⟨Nat.le_of_ble_eq_true rfl, Nat.le_of_ble_eq_true rfl, rfl, rfl⟩ kw_309 kw_36 kw_37 6 rfl rfl rfl rfl (Nat.le_of_ble_eq_true rfl) [6, 7, 8, 9, 10, 11, 12, 13, 14, 15, 16, 17] rfl rfl ?_
      cases Option.some.inj hF
      exact jj_iret hJ dX6_level_62
    replace hF := iq c7 hF
    by_cases c10 : a2 = 2
    · replace hF := ip c10 hF
      refine jj_tin hJ 63 dX6_level_11 (by rw [c10] <;> decide) (by rw [c10] <;> decide) (by rw [c10] <;> rfl) rfl ?_
      refine jj_aload_n hJ dX6_level_63 0 rfl rfl ?_
      refine jj_iload_n hJ dX6_level_64 1 rfl rfl ?_
      obtain ⟨r12, h11, hF⟩ := ob hF
      refine jj_callV0 hJ (c_X6_placeOf l D cI cS cII RA R_u R_q R_r N_k N_f N_t N_w N_l N_b L_G L_l a1 h11) dX6_level_65 kw_317 ⟨Nat.le_of_ble_eq_true rfl, Nat.le_of_ble_eq_true rfl, rfl, rfl⟩ kw_316 kw_318 kw_319 0 rfl rfl rfl rfl (Nat.le_of_ble_eq_true rfl) [0, 1, 2, 3, 4, 5, 6, 7, 8, 9, 10, 11, 12, 13, 14, 15, 16, 17] rfl rfl ?_
      cases Option.some.inj hF
      exact jj_iret hJ dX6_level_68
    replace hF := iq c10 hF
    by_cases c13 : a2 = 3
    · replace hF := ip c13 hF
      refine jj_tin hJ 69 dX6_level_11 (by rw [c13] <;> decide) (by rw [c13] <;> decide) (by rw [c13] <;> rfl) rfl ?_
      refine jj_aload_n hJ dX6_level_69 0 rfl rfl ?_
      refine jj_iload_n hJ dX6_level_70 1 rfl rfl ?_
      obtain ⟨r15, h14, hF⟩ := ob hF
      refine jj_callV0 hJ (c_X6_sameAs l D cI cS cII RA R_u R_q R_r N_k N_f N_t N_w N_l N_b L_G L_l a1 h14) dX6_level_71 kw_321 ⟨Nat.le_of_ble_eq_true rfl, Nat.le_of_ble_eq_true rfl, rfl, rfl⟩ kw_320 kw_322 kw_323 0 rfl rfl rfl rfl (Nat.le_of_ble_eq_true rfl) [0, 1, 2, 3, 4, 5, 6, 7, 8, 9, 10, 11, 12, 13, 14, 15, 16, 17] rfl rfl ?_
      cases Option.some.inj hF
      exact jj_iret hJ dX6_level_74
    replace hF := iq c13 hF
    by_cases c16 : a2 = 4
    · replace hF := ip c16 hF
      refine jj_tin hJ 75 dX6_level_11 (by rw [c16] <;> decide) (by rw [c16] <;> decide) (by rw [c16] <;> rfl) rfl ?_
      refine jj_aload_n hJ dX6_level_75 0 rfl rfl ?_
      refine jj_get hJ lay_X6 dX6_level_76 0 1 rfl rfl (Nat.le_of_ble_eq_true rfl) kw_306 rfl ?_
      refine jj_iload_n hJ dX6_level_79 1 rfl rfl ?_
      obtain ⟨r18, h17, hF⟩ := ob hF
      refine jj_callN0 hJ (c_X4_isFloating l D cI cS cII (fun i => RA (i + 4)) N_k N_f N_t N_w N_l N_b a1 h17) dX6_level_80 kw_325 ⟨Nat.le_of_ble_eq_true rfl, Nat.le_of_ble_eq_true rfl, rfl, rfl⟩ kw_324 kw_326 kw_327 1 rfl rfl rfl rfl (Nat.le_of_ble_eq_true rfl) [1, 2, 3, 4, 5] rfl rfl ?_
      refine jj_if_eq hJ 90 dX6_level_83 rfl (fun c19 => ?_) (fun c19 => ?_)
      · replace hF := ip c19 hF
        refine jj_iconst hJ dX6_level_90 ic_0 ?_
        cases Option.some.inj hF
        exact jj_iret hJ dX6_level_91
      · replace hF := iq c19 hF
        refine jj_iconst hJ dX6_level_86 ic_1 ?_
        refine jj_goto hJ 91 dX6_level_87 rfl ?_
        cases Option.some.inj hF
        exact jj_iret hJ dX6_level_91
    replace hF := iq c16 hF
    refine jj_tout hJ 92 dX6_level_11 (by have := lv_neT c4 (show (0 : Int32).toInt = 0 from rfl); have := lv_neT c7 (show (1 : Int32).toInt = 1 from rfl); have := lv_neT c10 (show (2 : Int32).toInt = 2 from rfl); have := lv_neT c13 (show (3 : Int32).toInt = 3 from rfl); have := lv_neT c16 (show (4 : Int32).toInt = 4 from rfl); omega) rfl ?_
    refine jj_iconst hJ dX6_level_92 ic_m1 ?_
    cases Option.some.inj hF
    exact jj_iret hJ dX6_level_93
  · replace hF := ip c3 hF
    refine jj_iconst hJ dX6_level_8 ic_m1 ?_
    cases Option.some.inj hF
    exact jj_iret hJ dX6_level_9
section
def W_X6_isBound (cI cS cII : ClassId) (RA : Nat → Nat) (R_u : Int32) (R_q : Int32) (R_r : Int32) (N_k : Nat → Int32) (N_f : Nat → Int32) (N_t : Nat → Int32) (N_w : Nat → Int32) (N_l : Int32) (N_b : Int32) : va_W := [((RA 0), .inr (6, [.ref (RA 1), .ref (RA 4), .ref (RA 9), .int R_u, .ref (RA 10), .int R_q, .ref (RA 11), .ref (RA 23), .ref (RA 24), .ref (RA 28), .ref (RA 31), .ref (RA 34), .int R_r])), ((RA 4), .inr (4, [.ref (RA 5), .ref (RA 6), .ref (RA 7), .ref (RA 8), .int N_l, .int N_b])), ((RA 5), .inl (cI, 10, .inl N_k)), ((RA 6), .inl (cI, 16, .inl N_f)), ((RA 7), .inl (cI, 16, .inl N_t)), ((RA 8), .inl (cI, 16, .inl N_w))]
abbrev Rm_X6_isBound : Room := { frames := 0, cells := 0, slots := 0, locals := 0 }
variable {l : Launch} {D : va_G} {cI cS cII : ClassId} {RA : Nat → Nat} {A : Nat → Prop} {J : jT}
variable {z_r : Int32}
def p_X6_isBound (N_b : Int32) (a1 : Int32) : Option (Int32) := if a1 < 0 then (some 0) else (if N_b ≤ a1 then (some 0) else (some 1))
end
set_option maxRecDepth 100000 in
theorem c_X6_isBound (l : Launch) (D : va_G) (cI cS cII : ClassId) (RA : Nat → Nat) (R_u : Int32) (R_q : Int32) (R_r : Int32) (N_k : Nat → Int32) (N_f : Nat → Int32) (N_t : Nat → Int32) (N_w : Nat → Int32) (N_l : Int32) (N_b : Int32) (a1 : Int32) {z_r : Int32} (hF : p_X6_isBound N_b a1 = some z_r) : MJ l yX6_isBound cX6_isBound 2 (some .boolean) Rm_X6_isBound D (tysU cI cS cII) [.ref (RA 0), .int a1] (W_X6_isBound cI cS cII RA R_u R_q R_r N_k N_f N_t N_w N_l N_b) (some z_r) (W_X6_isBound cI cS cII RA R_u R_q R_r N_k N_f N_t N_w N_l N_b) := by
  refine mj_of (own := RX6) (by decide) rfl (Nat.le_of_ble_eq_true rfl) (fun J hJ => ?_)
  show J (W_X6_isBound cI cS cII RA R_u R_q R_r N_k N_f N_t N_w N_l N_b) 0 [(0, .ref (RA 0)), (1, .int a1)] []
  unfold p_X6_isBound at hF
  refine jj_iload_n hJ dX6_isBound_0 1 rfl rfl ?_
  refine jj_if_lt hJ 19 dX6_isBound_1 rfl (fun c1 => ?_) (fun c1 => ?_)
  · replace hF := ip c1 hF
    refine jj_iconst hJ dX6_isBound_19 ic_0 ?_
    cases Option.some.inj hF
    exact jj_zret hJ (Or.inl rfl) dX6_isBound_20
  · replace hF := iq c1 hF
    refine jj_iload_n hJ dX6_isBound_4 1 rfl rfl ?_
    refine jj_aload_n hJ dX6_isBound_5 0 rfl rfl ?_
    refine jj_get hJ lay_X6 dX6_isBound_6 0 1 rfl rfl (Nat.le_of_ble_eq_true rfl) kw_306 rfl ?_
    refine jj_getN hJ lay_X4 dX6_isBound_9 1 5 rfl rfl (Nat.le_of_ble_eq_true rfl) kw_328 rfl ?_
    refine jj_icmp_ge hJ 19 dX6_isBound_12 rfl (fun c2 => ?_) (fun c2 => ?_)
    · replace hF := ip c2 hF
      refine jj_iconst hJ dX6_isBound_19 ic_0 ?_
      cases Option.some.inj hF
      exact jj_zret hJ (Or.inl rfl) dX6_isBound_20
    · replace hF := iq c2 hF
      refine jj_iconst hJ dX6_isBound_15 ic_1 ?_
      refine jj_goto hJ 20 dX6_isBound_16 rfl ?_
      cases Option.some.inj hF
      exact jj_zret hJ (Or.inr rfl) dX6_isBound_20
section
def W_X6_isNeedless (cI cS cII : ClassId) (RA : Nat → Nat) (R_u : Int32) (R_q : Int32) (R_r : Int32) (N_k : Nat → Int32) (N_f : Nat → Int32) (N_t : Nat → Int32) (N_w : Nat → Int32) (N_l : Int32) (N_b : Int32) (T_x : Nat → Int32) : va_W := [((RA 0), .inr (6, [.ref (RA 1), .ref (RA 4), .ref (RA 9), .int R_u, .ref (RA 10), .int R_q, .ref (RA 11), .ref (RA 23), .ref (RA 24), .ref (RA 28), .ref (RA 31), .ref (RA 34), .int R_r])), ((RA 4), .inr (4, [.ref (RA 5), .ref (RA 6), .ref (RA 7), .ref (RA 8), .int N_l, .int N_b])), ((RA 5), .inl (cI, 10, .inl N_k)), ((RA 6), .inl (cI, 16, .inl N_f)), ((RA 7), .inl (cI, 16, .inl N_t)), ((RA 8), .inl (cI, 16, .inl N_w)), ((RA 23), .inl (cI, 10, .inl T_x))]
abbrev Rm_X6_isNeedless : Room := { frames := 2, cells := 0, slots := 0, locals := 49 }
variable {l : Launch} {D : va_G} {cI cS cII : ClassId} {RA : Nat → Nat} {A : Nat → Prop} {J : jT}
variable {z_r : Int32} {z_T_x : Nat → Int32}
def p_X6_isNeedless (N_f : Nat → Int32) (N_t : Nat → Int32) (N_w : Nat → Int32) (N_l : Int32) (N_b : Int32) (T_x : Nat → Int32) (a1 : Int32) : Option (Int32 × (Nat → Int32)) := (rd N_f 16 a1).bind fun x1 => (p_X4_lengthsFrom N_f N_t N_w N_l N_b T_x x1 (1 <<< (a1 &&& 31))).bind fun g4 => (rd N_t 16 a1).bind fun x5 => (rd g4 10 x5).bind fun x7 => (rd N_w 16 a1).bind fun x9 => if x7 < x9 then (some (0, g4)) else (some (1, g4))
end
set_option maxRecDepth 100000 in
theorem c_X6_isNeedless (l : Launch) (D : va_G) (cI cS cII : ClassId) (RA : Nat → Nat) (R_u : Int32) (R_q : Int32) (R_r : Int32) (N_k : Nat → Int32) (N_f : Nat → Int32) (N_t : Nat → Int32) (N_w : Nat → Int32) (N_l : Int32) (N_b : Int32) (T_x : Nat → Int32) (a1 : Int32) {z_r : Int32} {z_T_x : Nat → Int32} (hF : p_X6_isNeedless N_f N_t N_w N_l N_b T_x a1 = some (z_r, z_T_x)) : MJ l yX6_isNeedless cX6_isNeedless 2 (some .boolean) Rm_X6_isNeedless D (tysU cI cS cII) [.ref (RA 0), .int a1] (W_X6_isNeedless cI cS cII RA R_u R_q R_r N_k N_f N_t N_w N_l N_b T_x) (some z_r) (W_X6_isNeedless cI cS cII RA R_u R_q R_r N_k N_f N_t N_w N_l N_b z_T_x) := by
  refine mj_of (own := RX6) (by decide) rfl (Nat.le_of_ble_eq_true rfl) (fun J hJ => ?_)
  show J (W_X6_isNeedless cI cS cII RA R_u R_q R_r N_k N_f N_t N_w N_l N_b T_x) 0 [(0, .ref (RA 0)), (1, .int a1)] []
  unfold p_X6_isNeedless at hF
  refine jj_aload_n hJ dX6_isNeedless_0 0 rfl rfl ?_
  refine jj_get hJ lay_X6 dX6_isNeedless_1 0 1 rfl rfl (Nat.le_of_ble_eq_true rfl) kw_306 rfl ?_
  refine jj_aload_n hJ dX6_isNeedless_4 0 rfl rfl ?_
  refine jj_get hJ lay_X6 dX6_isNeedless_5 0 1 rfl rfl (Nat.le_of_ble_eq_true rfl) kw_306 rfl ?_
  refine jj_getN hJ lay_X4 dX6_isNeedless_8 1 1 rfl rfl (Nat.le_of_ble_eq_true rfl) kw_329 rfl ?_
  refine jj_iload_n hJ dX6_isNeedless_11 1 rfl rfl ?_
  obtain ⟨x1, h2, hF⟩ := ob hF
  refine jj_iald hJ dX6_isNeedless_12 3 0 rfl rfl h2 ?_
  refine jj_iconst hJ dX6_isNeedless_13 ic_1 ?_
  refine jj_iload_n hJ dX6_isNeedless_14 1 rfl rfl ?_
  refine jj_ishl hJ dX6_isNeedless_15 ?_
  refine jj_aload_n hJ dX6_isNeedless_16 0 rfl rfl ?_
  refine jj_get hJ lay_X6 dX6_isNeedless_17 0 7 rfl rfl (Nat.le_of_ble_eq_true rfl) kw_330 rfl ?_
  obtain ⟨g4, h3, hF⟩ := ob hF
  refine jj_callN hJ (c_X4_lengthsFrom l D cI cS cII (fun i => RA (i + 4)) (RA 23) N_k N_f N_t N_w N_l N_b T_x x1 (1 <<< (a1 &&& 31)) h3) dX6_isNeedless_20 kw_22 ⟨Nat.le_of_ble_eq_true rfl, Nat.le_of_ble_eq_true rfl, rfl, rfl⟩ kw_331 kw_23 kw_24 1 rfl rfl rfl rfl (Nat.le_of_ble_eq_true rfl) [1, 2, 3, 4, 5, 6] rfl rfl (wn := (W_X6_isNeedless cI cS cII RA R_u R_q R_r N_k N_f N_t N_w N_l N_b g4)) (jNew_sel rfl [none, some 0, some 1, some 2, some 3, some 4, some 5] (by decide +kernel) rfl) ?_
  refine jj_aload_n hJ dX6_isNeedless_23 0 rfl rfl ?_
  refine jj_get hJ lay_X6 dX6_isNeedless_24 0 7 rfl rfl (Nat.le_of_ble_eq_true rfl) kw_330 rfl ?_
  refine jj_aload_n hJ dX6_isNeedless_27 0 rfl rfl ?_
  refine jj_get hJ lay_X6 dX6_isNeedless_28 0 1 rfl rfl (Nat.le_of_ble_eq_true rfl) kw_306 rfl ?_
  refine jj_getN hJ lay_X4 dX6_isNeedless_31 1 2 rfl rfl (Nat.le_of_ble_eq_true rfl) kw_332 rfl ?_
  refine jj_iload_n hJ dX6_isNeedless_34 1 rfl rfl ?_
  obtain ⟨x5, h6, hF⟩ := ob hF
  refine jj_iald hJ dX6_isNeedless_35 4 0 rfl rfl h6 ?_
  obtain ⟨x7, h8, hF⟩ := ob hF
  refine jj_iald hJ dX6_isNeedless_36 6 0 rfl rfl h8 ?_
  refine jj_aload_n hJ dX6_isNeedless_37 0 rfl rfl ?_
  refine jj_get hJ lay_X6 dX6_isNeedless_38 0 1 rfl rfl (Nat.le_of_ble_eq_true rfl) kw_306 rfl ?_
  refine jj_getN hJ lay_X4 dX6_isNeedless_41 1 3 rfl rfl (Nat.le_of_ble_eq_true rfl) kw_333 rfl ?_
  refine jj_iload_n hJ dX6_isNeedless_44 1 rfl rfl ?_
  obtain ⟨x9, h10, hF⟩ := ob hF
  refine jj_iald hJ dX6_isNeedless_45 5 0 rfl rfl h10 ?_
  refine jj_icmp_lt hJ 53 dX6_isNeedless_46 rfl (fun c11 => ?_) (fun c11 => ?_)
  · replace hF := ip c11 hF
    refine jj_iconst hJ dX6_isNeedless_53 ic_0 ?_
    cases Option.some.inj hF
    exact jj_zret hJ (Or.inl rfl) dX6_isNeedless_54
  · replace hF := iq c11 hF
    refine jj_iconst hJ dX6_isNeedless_49 ic_1 ?_
    refine jj_goto hJ 54 dX6_isNeedless_50 rfl ?_
    cases Option.some.inj hF
    exact jj_zret hJ (Or.inr rfl) dX6_isNeedless_54
section
def W_X6_slackOf (cI cS cII : ClassId) (RA : Nat → Nat) (R_u : Int32) (R_q : Int32) (R_r : Int32) (N_k : Nat → Int32) (N_f : Nat → Int32) (N_t : Nat → Int32) (N_w : Nat → Int32) (N_l : Int32) (N_b : Int32) (L_G : Nat → Nat → Int32) (L_l : Int32) : va_W := ([((RA 0), .inr (6, [.ref (RA 1), .ref (RA 4), .ref (RA 9), .int R_u, .ref (RA 10), .int R_q, .ref (RA 11), .ref (RA 23), .ref (RA 24), .ref (RA 28), .ref (RA 31), .ref (RA 34), .int R_r])), ((RA 4), .inr (4, [.ref (RA 5), .ref (RA 6), .ref (RA 7), .ref (RA 8), .int N_l, .int N_b])), ((RA 5), .inl (cI, 10, .inl N_k)), ((RA 6), .inl (cI, 16, .inl N_f)), ((RA 7), .inl (cI, 16, .inl N_t)), ((RA 8), .inl (cI, 16, .inl N_w)), ((RA 11), .inr (1, [.ref (RA 12), .int L_l])), ((RA 12), .inl (cII, 10, .inr (.inr (.inr (.inr (fun i => some (RA (i + 13))))))))] ++ rw10 cI (fun i => RA (i + 13)) L_G)
abbrev Rm_X6_slackOf : Room := { frames := 1, cells := 0, slots := 0, locals := 22 }
variable {l : Launch} {D : va_G} {cI cS cII : ClassId} {RA : Nat → Nat} {A : Nat → Prop} {J : jT}
variable {z_r : Int32}
def p_X6_slackOf (N_f : Nat → Int32) (N_t : Nat → Int32) (N_w : Nat → Int32) (L_G : Nat → Nat → Int32) (a1 : Int32) : Option (Int32) := (rd N_f 16 a1).bind fun x1 => (rd N_t 16 a1).bind fun x3 => (p_X1_leads L_G x3 x1).bind fun r6 => if r6 = 0 then (some ((-4))) else ((ix 10 x3).bind fun j8 => (rd (L_G j8) 10 x1).bind fun x10 => (rd N_w 16 a1).bind fun x12 => some (-(x10 + x12)))
end
set_option maxRecDepth 100000 in
theorem c_X6_slackOf (l : Launch) (D : va_G) (cI cS cII : ClassId) (RA : Nat → Nat) (R_u : Int32) (R_q : Int32) (R_r : Int32) (N_k : Nat → Int32) (N_f : Nat → Int32) (N_t : Nat → Int32) (N_w : Nat → Int32) (N_l : Int32) (N_b : Int32) (L_G : Nat → Nat → Int32) (L_l : Int32) (a1 : Int32) {z_r : Int32} (hF : p_X6_slackOf N_f N_t N_w L_G a1 = some z_r) : MJ l yX6_slackOf cX6_slackOf 4 (some .int) Rm_X6_slackOf D (tysU cI cS cII) [.ref (RA 0), .int a1] (W_X6_slackOf cI cS cII RA R_u R_q R_r N_k N_f N_t N_w N_l N_b L_G L_l) (some z_r) (W_X6_slackOf cI cS cII RA R_u R_q R_r N_k N_f N_t N_w N_l N_b L_G L_l) := by
  refine mj_of (own := RX6) (by decide) rfl (Nat.le_of_ble_eq_true rfl) (fun J hJ => ?_)
  show J (W_X6_slackOf cI cS cII RA R_u R_q R_r N_k N_f N_t N_w N_l N_b L_G L_l) 0 [(0, .ref (RA 0)), (1, .int a1)] []
  unfold p_X6_slackOf at hF
  refine jj_aload_n hJ dX6_slackOf_0 0 rfl rfl ?_
  refine jj_get hJ lay_X6 dX6_slackOf_1 0 1 rfl rfl (Nat.le_of_ble_eq_true rfl) kw_306 rfl ?_
  refine jj_getN hJ lay_X4 dX6_slackOf_4 1 1 rfl rfl (Nat.le_of_ble_eq_true rfl) kw_329 rfl ?_
  refine jj_iload_n hJ dX6_slackOf_7 1 rfl rfl ?_
  obtain ⟨x1, h2, hF⟩ := ob hF
  refine jj_iald hJ dX6_slackOf_8 3 0 rfl rfl h2 ?_
  refine jj_istore_n hJ dX6_slackOf_9 rfl (Nat.le_of_ble_eq_true rfl) (lv' := [(2, .int x1), (0, .ref (RA 0)), (1, .int a1)]) rfl ?_
  refine jj_aload_n hJ dX6_slackOf_10 1 rfl rfl ?_
  refine jj_get hJ lay_X6 dX6_slackOf_11 0 1 rfl rfl (Nat.le_of_ble_eq_true rfl) kw_306 rfl ?_
  refine jj_getN hJ lay_X4 dX6_slackOf_14 1 2 rfl rfl (Nat.le_of_ble_eq_true rfl) kw_332 rfl ?_
  refine jj_iload_n hJ dX6_slackOf_17 2 rfl rfl ?_
  obtain ⟨x3, h4, hF⟩ := ob hF
  refine jj_iald hJ dX6_slackOf_18 4 0 rfl rfl h4 ?_
  refine jj_istore_n hJ dX6_slackOf_19 rfl (Nat.le_of_ble_eq_true rfl) (lv' := [(3, .int x3), (2, .int x1), (0, .ref (RA 0)), (1, .int a1)]) rfl ?_
  refine jj_aload_n hJ dX6_slackOf_20 2 rfl rfl ?_
  refine jj_get hJ lay_X6 dX6_slackOf_21 0 6 rfl rfl (Nat.le_of_ble_eq_true rfl) kw_308 rfl ?_
  refine jj_iload_n hJ dX6_slackOf_24 0 rfl rfl ?_
  refine jj_iload_n hJ dX6_slackOf_25 1 rfl rfl ?_
  obtain ⟨r6, h5, hF⟩ := ob hF
  refine jj_callN0 hJ (c_X1_leads l D cI cS cII (fun i => RA (i + 11)) L_G L_l x3 x1 h5) dX6_slackOf_26 kw_27 ⟨Nat.le_of_ble_eq_true rfl, Nat.le_of_ble_eq_true rfl, rfl, rfl⟩ kw_334 kw_28 kw_29 6 rfl rfl rfl rfl (Nat.le_of_ble_eq_true rfl) [6, 7, 8, 9, 10, 11, 12, 13, 14, 15, 16, 17] rfl rfl ?_
  refine jj_if_eq hJ 57 dX6_slackOf_29 rfl (fun c7 => ?_) (fun c7 => ?_)
  · replace hF := ip c7 hF
    refine jj_bipush hJ dX6_slackOf_57 bp_m4 ?_
    cases Option.some.inj hF
    exact jj_iret hJ dX6_slackOf_59
  · replace hF := iq c7 hF
    refine jj_aload_n hJ dX6_slackOf_32 2 rfl rfl ?_
    refine jj_get hJ lay_X6 dX6_slackOf_33 0 6 rfl rfl (Nat.le_of_ble_eq_true rfl) kw_308 rfl ?_
    refine jj_getN hJ lay_X1 dX6_slackOf_36 6 0 rfl rfl (Nat.le_of_ble_eq_true rfl) kw_310 rfl ?_
    refine jj_iload_n hJ dX6_slackOf_39 0 rfl rfl ?_
    obtain ⟨j8, h9, hF⟩ := ob hF
    refine jj_aald hJ dX6_slackOf_40 7 2 rfl rfl rfl (ix_some h9).1 (congrArg (fun i => some (RA (i + 13))) (ix_some h9).2.1) ?_
    refine jj_iload_n hJ dX6_slackOf_41 1 rfl rfl ?_
    obtain ⟨x10, h11, hF⟩ := ob hF
    refine jj_iald hJ dX6_slackOf_42 (8 + j8) 0 (rw10_get _ (ix_some h9).2.2) rfl h11 ?_
    refine jj_aload_n hJ dX6_slackOf_43 2 rfl rfl ?_
    refine jj_get hJ lay_X6 dX6_slackOf_44 0 1 rfl rfl (Nat.le_of_ble_eq_true rfl) kw_306 rfl ?_
    refine jj_getN hJ lay_X4 dX6_slackOf_47 1 3 rfl rfl (Nat.le_of_ble_eq_true rfl) kw_333 rfl ?_
    refine jj_iload_n hJ dX6_slackOf_50 3 rfl rfl ?_
    obtain ⟨x12, h13, hF⟩ := ob hF
    refine jj_iald hJ dX6_slackOf_51 5 0 rfl rfl h13 ?_
    refine jj_iadd hJ dX6_slackOf_52 ?_
    refine jj_ineg hJ dX6_slackOf_53 ?_
    refine jj_goto hJ 59 dX6_slackOf_54 rfl ?_
    cases Option.some.inj hF
    exact jj_iret hJ dX6_slackOf_59
section
def W_X6_bound (cI cS cII : ClassId) (RA : Nat → Nat) (R_u : Int32) (R_q : Int32) (R_r : Int32) (N_k : Nat → Int32) (N_f : Nat → Int32) (N_t : Nat → Int32) (N_w : Nat → Int32) (N_l : Int32) (N_b : Int32) (T_x : Nat → Int32) (L_G : Nat → Nat → Int32) (L_l : Int32) : va_W := ([((RA 0), .inr (6, [.ref (RA 1), .ref (RA 4), .ref (RA 9), .int R_u, .ref (RA 10), .int R_q, .ref (RA 11), .ref (RA 23), .ref (RA 24), .ref (RA 28), .ref (RA 31), .ref (RA 34), .int R_r])), ((RA 4), .inr (4, [.ref (RA 5), .ref (RA 6), .ref (RA 7), .ref (RA 8), .int N_l, .int N_b])), ((RA 5), .inl (cI, 10, .inl N_k)), ((RA 6), .inl (cI, 16, .inl N_f)), ((RA 7), .inl (cI, 16, .inl N_t)), ((RA 8), .inl (cI, 16, .inl N_w)), ((RA 23), .inl (cI, 10, .inl T_x)), ((RA 11), .inr (1, [.ref (RA 12), .int L_l])), ((RA 12), .inl (cII, 10, .inr (.inr (.inr (.inr (fun i => some (RA (i + 13))))))))] ++ rw10 cI (fun i => RA (i + 13)) L_G)
abbrev Rm_X6_bound : Room := { frames := 3, cells := 0, slots := 0, locals := 70 }
variable {l : Launch} {D : va_G} {cI cS cII : ClassId} {RA : Nat → Nat} {A : Nat → Prop} {J : jT}
variable {z_r : Int32} {z_T_x : Nat → Int32}
def p_X6_bound (N_f : Nat → Int32) (N_t : Nat → Int32) (N_w : Nat → Int32) (N_l : Int32) (N_b : Int32) (T_x : Nat → Int32) (L_G : Nat → Nat → Int32) (a1 : Int32) (a2 : Int32) : Option (Int32 × (Nat → Int32)) := (p_X6_isBound N_b a1).bind fun r2 => if r2 = 0 then (some ((-1), T_x)) else (if a2 = 0 then ((rd N_f 16 a1).bind fun x5 => some (x5, T_x)) else if a2 = 1 then ((rd N_t 16 a1).bind fun x8 => some (x8, T_x)) else if a2 = 2 then ((rd N_w 16 a1).bind fun x11 => some (x11 + 100, T_x)) else if a2 = 3 then ((p_X6_isNeedless N_f N_t N_w N_l N_b T_x a1).bind fun (r15, g16) => if r15 = 0 then (some (0, g16)) else (some (1, g16))) else if a2 = 4 then ((p_X6_slackOf N_f N_t N_w L_G a1).bind fun r20 => some (r20, T_x)) else (some ((-1), T_x)))
end
set_option maxRecDepth 100000 in
theorem c_X6_bound (l : Launch) (D : va_G) (cI cS cII : ClassId) (RA : Nat → Nat) (R_u : Int32) (R_q : Int32) (R_r : Int32) (N_k : Nat → Int32) (N_f : Nat → Int32) (N_t : Nat → Int32) (N_w : Nat → Int32) (N_l : Int32) (N_b : Int32) (T_x : Nat → Int32) (L_G : Nat → Nat → Int32) (L_l : Int32) (a1 : Int32) (a2 : Int32) {z_r : Int32} {z_T_x : Nat → Int32} (hF : p_X6_bound N_f N_t N_w N_l N_b T_x L_G a1 a2 = some (z_r, z_T_x)) : MJ l yX6_bound cX6_bound 3 (some .int) Rm_X6_bound D (tysU cI cS cII) [.ref (RA 0), .int a1, .int a2] (W_X6_bound cI cS cII RA R_u R_q R_r N_k N_f N_t N_w N_l N_b T_x L_G L_l) (some z_r) (W_X6_bound cI cS cII RA R_u R_q R_r N_k N_f N_t N_w N_l N_b z_T_x L_G L_l) := by
  refine mj_of (own := RX6) (by decide) rfl (Nat.le_of_ble_eq_true rfl) (fun J hJ => ?_)
  show J (W_X6_bound cI cS cII RA R_u R_q R_r N_k N_f N_t N_w N_l N_b T_x L_G L_l) 0 [(0, .ref (RA 0)), (1, .int a1), (2, .int a2)] []
  unfold p_X6_bound at hF
  refine jj_aload_n hJ dX6_bound_0 0 rfl rfl ?_
  refine jj_iload_n hJ dX6_bound_1 1 rfl rfl ?_
  obtain ⟨r2, h1, hF⟩ := ob hF
  refine jj_callV0 hJ (c_X6_isBound l D cI cS cII RA R_u R_q R_r N_k N_f N_t N_w N_l N_b a1 h1) dX6_bound_2 kw_336 ⟨Nat.le_of_ble_eq_true rfl, Nat.le_of_ble_eq_true rfl, rfl, rfl⟩ kw_335 kw_337 kw_338 0 rfl rfl rfl rfl (Nat.le_of_ble_eq_true rfl) [0, 1, 2, 3, 4, 5] rfl rfl ?_
  refine jj_if_ne hJ 10 dX6_bound_5 rfl (fun c3 => ?_) (fun c3 => ?_)
  · replace hF := iq c3 hF
    refine jj_iload_n hJ dX6_bound_10 2 rfl rfl ?_
    by_cases c4 : a2 = 0
    · replace hF := ip c4 hF
      refine jj_tin hJ 44 dX6_bound_11 (by rw [c4] <;> decide) (by rw [c4] <;> decide) (by rw [c4] <;> rfl) rfl ?_
      refine jj_aload_n hJ dX6_bound_44 0 rfl rfl ?_
      refine jj_get hJ lay_X6 dX6_bound_45 0 1 rfl rfl (Nat.le_of_ble_eq_true rfl) kw_306 rfl ?_
      refine jj_getN hJ lay_X4 dX6_bound_48 1 1 rfl rfl (Nat.le_of_ble_eq_true rfl) kw_329 rfl ?_
      refine jj_iload_n hJ dX6_bound_51 1 rfl rfl ?_
      obtain ⟨x5, h6, hF⟩ := ob hF
      refine jj_iald hJ dX6_bound_52 3 0 rfl rfl h6 ?_
      cases Option.some.inj hF
      exact jj_iret hJ dX6_bound_53
    replace hF := iq c4 hF
    by_cases c7 : a2 = 1
    · replace hF := ip c7 hF
      refine jj_tin hJ 54 dX6_bound_11 (by rw [c7] <;> decide) (by rw [c7] <;> decide) (by rw [c7] <;> rfl) rfl ?_
      refine jj_aload_n hJ dX6_bound_54 0 rfl rfl ?_
      refine jj_get hJ lay_X6 dX6_bound_55 0 1 rfl rfl (Nat.le_of_ble_eq_true rfl) kw_306 rfl ?_
      refine jj_getN hJ lay_X4 dX6_bound_58 1 2 rfl rfl (Nat.le_of_ble_eq_true rfl) kw_332 rfl ?_
      refine jj_iload_n hJ dX6_bound_61 1 rfl rfl ?_
      obtain ⟨x8, h9, hF⟩ := ob hF
      refine jj_iald hJ dX6_bound_62 4 0 rfl rfl h9 ?_
      cases Option.some.inj hF
      exact jj_iret hJ dX6_bound_63
    replace hF := iq c7 hF
    by_cases c10 : a2 = 2
    · replace hF := ip c10 hF
      refine jj_tin hJ 64 dX6_bound_11 (by rw [c10] <;> decide) (by rw [c10] <;> decide) (by rw [c10] <;> rfl) rfl ?_
      refine jj_aload_n hJ dX6_bound_64 0 rfl rfl ?_
      refine jj_get hJ lay_X6 dX6_bound_65 0 1 rfl rfl (Nat.le_of_ble_eq_true rfl) kw_306 rfl ?_
      refine jj_getN hJ lay_X4 dX6_bound_68 1 3 rfl rfl (Nat.le_of_ble_eq_true rfl) kw_333 rfl ?_
      refine jj_iload_n hJ dX6_bound_71 1 rfl rfl ?_
      obtain ⟨x11, h12, hF⟩ := ob hF
      refine jj_iald hJ dX6_bound_72 5 0 rfl rfl h12 ?_
      refine jj_bipush hJ dX6_bound_73 bp_100 ?_
      refine jj_iadd hJ dX6_bound_75 ?_
      cases Option.some.inj hF
      exact jj_iret hJ dX6_bound_76
    replace hF := iq c10 hF
    by_cases c13 : a2 = 3
    · replace hF := ip c13 hF
      refine jj_tin hJ 77 dX6_bound_11 (by rw [c13] <;> decide) (by rw [c13] <;> decide) (by rw [c13] <;> rfl) rfl ?_
      refine jj_aload_n hJ dX6_bound_77 0 rfl rfl ?_
      refine jj_iload_n hJ dX6_bound_78 1 rfl rfl ?_
      obtain ⟨⟨r15, g16⟩, h14, hF⟩ := ob hF
      refine jj_callV hJ (c_X6_isNeedless l D cI cS cII RA R_u R_q R_r N_k N_f N_t N_w N_l N_b T_x a1 h14) dX6_bound_79 kw_340 ⟨Nat.le_of_ble_eq_true rfl, Nat.le_of_ble_eq_true rfl, rfl, rfl⟩ kw_339 kw_341 kw_342 0 rfl rfl rfl rfl (Nat.le_of_ble_eq_true rfl) [0, 1, 2, 3, 4, 5, 6] rfl rfl (wn := (W_X6_bound cI cS cII RA R_u R_q R_r N_k N_f N_t N_w N_l N_b g16 L_G L_l)) (jNew_sel rfl [some 0, some 1, some 2, some 3, some 4, some 5, some 6, none, none, none, none, none, none, none, none, none, none, none, none] (by decide +kernel) rfl) ?_
      refine jj_if_eq hJ 89 dX6_bound_82 rfl (fun c17 => ?_) (fun c17 => ?_)
      · replace hF := ip c17 hF
        refine jj_iconst hJ dX6_bound_89 ic_0 ?_
        cases Option.some.inj hF
        exact jj_iret hJ dX6_bound_90
      · replace hF := iq c17 hF
        refine jj_iconst hJ dX6_bound_85 ic_1 ?_
        refine jj_goto hJ 90 dX6_bound_86 rfl ?_
        cases Option.some.inj hF
        exact jj_iret hJ dX6_bound_90
    replace hF := iq c13 hF
    by_cases c18 : a2 = 4
    · replace hF := ip c18 hF
      refine jj_tin hJ 91 dX6_bound_11 (by rw [c18] <;> decide) (by rw [c18] <;> decide) (by rw [c18] <;> rfl) rfl ?_
      refine jj_aload_n hJ dX6_bound_91 0 rfl rfl ?_
      refine jj_iload_n hJ dX6_bound_92 1 rfl rfl ?_
      obtain ⟨r20, h19, hF⟩ := ob hF
      refine jj_callV0 hJ (c_X6_slackOf l D cI cS cII RA R_u R_q R_r N_k N_f N_t N_w N_l N_b L_G L_l a1 h19) dX6_bound_93 kw_344 ⟨Nat.le_of_ble_eq_true rfl, Nat.le_of_ble_eq_true rfl, rfl, rfl⟩ kw_343 kw_345 kw_346 0 rfl rfl rfl rfl (Nat.le_of_ble_eq_true rfl) [0, 1, 2, 3, 4, 5, 7, 8, 9, 10, 11, 12, 13, 14, 15, 16, 17, 18] rfl rfl ?_
      cases Option.some.inj hF
      exact jj_iret hJ dX6_bound_96
    replace hF := iq c18 hF
    refine jj_tout hJ 97 dX6_bound_11 (by have := lv_neT c4 (show (0 : Int32).toInt = 0 from rfl); have := lv_neT c7 (show (1 : Int32).toInt = 1 from rfl); have := lv_neT c10 (show (2 : Int32).toInt = 2 from rfl); have := lv_neT c13 (show (3 : Int32).toInt = 3 from rfl); have := lv_neT c18 (show (4 : Int32).toInt = 4 from rfl); omega) rfl ?_
    refine jj_iconst hJ dX6_bound_97 ic_m1 ?_
    cases Option.some.inj hF
    exact jj_iret hJ dX6_bound_98
  · replace hF := ip c3 hF
    refine jj_iconst hJ dX6_bound_8 ic_m1 ?_
    cases Option.some.inj hF
    exact jj_iret hJ dX6_bound_9
section
def W_X6_reach (cI cS cII : ClassId) (RA : Nat → Nat) (R_u : Int32) (R_q : Int32) (R_r : Int32) (N_k : Nat → Int32) (N_f : Nat → Int32) (N_t : Nat → Int32) (N_w : Nat → Int32) (N_l : Int32) (N_b : Int32) (L_G : Nat → Nat → Int32) (L_l : Int32) : va_W := ([((RA 0), .inr (6, [.ref (RA 1), .ref (RA 4), .ref (RA 9), .int R_u, .ref (RA 10), .int R_q, .ref (RA 11), .ref (RA 23), .ref (RA 24), .ref (RA 28), .ref (RA 31), .ref (RA 34), .int R_r])), ((RA 4), .inr (4, [.ref (RA 5), .ref (RA 6), .ref (RA 7), .ref (RA 8), .int N_l, .int N_b])), ((RA 5), .inl (cI, 10, .inl N_k)), ((RA 6), .inl (cI, 16, .inl N_f)), ((RA 7), .inl (cI, 16, .inl N_t)), ((RA 8), .inl (cI, 16, .inl N_w)), ((RA 11), .inr (1, [.ref (RA 12), .int L_l])), ((RA 12), .inl (cII, 10, .inr (.inr (.inr (.inr (fun i => some (RA (i + 13))))))))] ++ rw10 cI (fun i => RA (i + 13)) L_G)
abbrev Rm_X6_reach : Room := { frames := 1, cells := 0, slots := 0, locals := 22 }
variable {l : Launch} {D : va_G} {cI cS cII : ClassId} {RA : Nat → Nat} {A : Nat → Prop} {J : jT}
variable {z_r : Int32}
def p_X6_reach (N_l : Int32) (L_G : Nat → Nat → Int32) (a1 : Int32) (a2 : Int32) : Option (Int32) := (p_X6_isLevel N_l a1).bind fun r2 => if r2 = 0 then (some ((-1))) else ((p_X6_isLevel N_l a2).bind fun r5 => if r5 = 0 then (some ((-1))) else ((p_X1_leads L_G a1 a2).bind fun r8 => if r8 = 0 then (some ((-4))) else ((ix 10 a1).bind fun j10 => (rd (L_G j10) 10 a2).bind fun x12 => some (x12 + 1000))))
end
set_option maxRecDepth 100000 in
theorem c_X6_reach (l : Launch) (D : va_G) (cI cS cII : ClassId) (RA : Nat → Nat) (R_u : Int32) (R_q : Int32) (R_r : Int32) (N_k : Nat → Int32) (N_f : Nat → Int32) (N_t : Nat → Int32) (N_w : Nat → Int32) (N_l : Int32) (N_b : Int32) (L_G : Nat → Nat → Int32) (L_l : Int32) (a1 : Int32) (a2 : Int32) {z_r : Int32} (hF : p_X6_reach N_l L_G a1 a2 = some z_r) : MJ l yX6_reach cX6_reach 3 (some .int) Rm_X6_reach D (tysU cI cS cII) [.ref (RA 0), .int a1, .int a2] (W_X6_reach cI cS cII RA R_u R_q R_r N_k N_f N_t N_w N_l N_b L_G L_l) (some z_r) (W_X6_reach cI cS cII RA R_u R_q R_r N_k N_f N_t N_w N_l N_b L_G L_l) := by
  refine mj_of (own := RX6) (by decide) rfl (Nat.le_of_ble_eq_true rfl) (fun J hJ => ?_)
  show J (W_X6_reach cI cS cII RA R_u R_q R_r N_k N_f N_t N_w N_l N_b L_G L_l) 0 [(0, .ref (RA 0)), (1, .int a1), (2, .int a2)] []
  unfold p_X6_reach at hF
  refine jj_aload_n hJ dX6_reach_0 0 rfl rfl ?_
  refine jj_iload_n hJ dX6_reach_1 1 rfl rfl ?_
  obtain ⟨r2, h1, hF⟩ := ob hF
  refine jj_callV0 hJ (c_X6_isLevel l D cI cS cII RA R_u R_q R_r N_k N_f N_t N_w N_l N_b a1 h1) dX6_reach_2 kw_312 ⟨Nat.le_of_ble_eq_true rfl, Nat.le_of_ble_eq_true rfl, rfl, rfl⟩ kw_311 kw_313 kw_314 0 rfl rfl rfl rfl (Nat.le_of_ble_eq_true rfl) [0, 1, 2, 3, 4, 5] rfl rfl ?_
  refine jj_if_eq hJ 16 dX6_reach_5 rfl (fun c3 => ?_) (fun c3 => ?_)
  · replace hF := ip c3 hF
    refine jj_iconst hJ dX6_reach_16 ic_m1 ?_
    cases Option.some.inj hF
    exact jj_iret hJ dX6_reach_17
  · replace hF := iq c3 hF
    refine jj_aload_n hJ dX6_reach_8 0 rfl rfl ?_
    refine jj_iload_n hJ dX6_reach_9 2 rfl rfl ?_
    obtain ⟨r5, h4, hF⟩ := ob hF
    refine jj_callV0 hJ (c_X6_isLevel l D cI cS cII RA R_u R_q R_r N_k N_f N_t N_w N_l N_b a2 h4) dX6_reach_10 kw_312 ⟨Nat.le_of_ble_eq_true rfl, Nat.le_of_ble_eq_true rfl, rfl, rfl⟩ kw_311 kw_313 kw_314 0 rfl rfl rfl rfl (Nat.le_of_ble_eq_true rfl) [0, 1, 2, 3, 4, 5] rfl rfl ?_
    refine jj_if_ne hJ 18 dX6_reach_13 rfl (fun c6 => ?_) (fun c6 => ?_)
    · replace hF := iq c6 hF
      refine jj_aload_n hJ dX6_reach_18 0 rfl rfl ?_
      refine jj_get hJ lay_X6 dX6_reach_19 0 6 rfl rfl (Nat.le_of_ble_eq_true rfl) kw_308 rfl ?_
      refine jj_iload_n hJ dX6_reach_22 1 rfl rfl ?_
      refine jj_iload_n hJ dX6_reach_23 2 rfl rfl ?_
      obtain ⟨r8, h7, hF⟩ := ob hF
      refine jj_callN0 hJ (c_X1_leads l D cI cS cII (fun i => RA (i + 11)) L_G L_l a1 a2 h7) dX6_reach_24 kw_27 ⟨Nat.le_of_ble_eq_true rfl, Nat.le_of_ble_eq_true rfl, rfl, rfl⟩ kw_334 kw_28 kw_29 6 rfl rfl rfl rfl (Nat.le_of_ble_eq_true rfl) [6, 7, 8, 9, 10, 11, 12, 13, 14, 15, 16, 17] rfl rfl ?_
      refine jj_if_eq hJ 48 dX6_reach_27 rfl (fun c9 => ?_) (fun c9 => ?_)
      · replace hF := ip c9 hF
        refine jj_bipush hJ dX6_reach_48 bp_m4 ?_
        cases Option.some.inj hF
        exact jj_iret hJ dX6_reach_50
      · replace hF := iq c9 hF
        refine jj_aload_n hJ dX6_reach_30 0 rfl rfl ?_
        refine jj_get hJ lay_X6 dX6_reach_31 0 6 rfl rfl (Nat.le_of_ble_eq_true rfl) kw_308 rfl ?_
        refine jj_getN hJ lay_X1 dX6_reach_34 6 0 rfl rfl (Nat.le_of_ble_eq_true rfl) kw_310 rfl ?_
        refine jj_iload_n hJ dX6_reach_37 1 rfl rfl ?_
        obtain ⟨j10, h11, hF⟩ := ob hF
        refine jj_aald hJ dX6_reach_38 7 2 rfl rfl rfl (ix_some h11).1 (congrArg (fun i => some (RA (i + 13))) (ix_some h11).2.1) ?_
        refine jj_iload_n hJ dX6_reach_39 2 rfl rfl ?_
        obtain ⟨x12, h13, hF⟩ := ob hF
        refine jj_iald hJ dX6_reach_40 (8 + j10) 0 (rw10_get _ (ix_some h11).2.2) rfl h13 ?_
        refine jj_sipush hJ dX6_reach_41 sp_1000 ?_
        refine jj_iadd hJ dX6_reach_44 ?_
        refine jj_goto hJ 50 dX6_reach_45 rfl ?_
        cases Option.some.inj hF
        exact jj_iret hJ dX6_reach_50
    · replace hF := ip c6 hF
      refine jj_iconst hJ dX6_reach_16 ic_m1 ?_
      cases Option.some.inj hF
      exact jj_iret hJ dX6_reach_17
