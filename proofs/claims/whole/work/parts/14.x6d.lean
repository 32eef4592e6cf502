theorem kw_434 : Cond.methodLink RX6 162 yX6_resume ∈ lw_tbl := tb2 (i := 215) rfl
theorem kw_435 : cwOk yX6_resume cX6_resume 2 none 1 := ⟨tb2 (i := 218) rfl, tb1 (i := 1) rfl, by decide, by decide, by decide +kernel⟩
theorem kw_436 : Cond.instanceMethod yX6_resume ∈ lw_tbl := tb2 (i := 217) rfl
theorem kw_437 : Cond.selects RX6 yX6_resume yX6_resume ∈ lw_tbl := tsel (i := 32) (q := (⟨"UniverseLevels", "resume", "(LUniverseLevels$State;)V"⟩, 13)) rfl
theorem kw_438 : ((RX6, 254, yX2_trace, "UniverseLevels") : String × Nat × MethodName × String) ∈ nestM := List.mem_of_getElem? (i := 14) rfl
theorem kw_439 : cwOk yX2_trace cX2_trace 7 none 4 := ⟨tb2 (i := 42) rfl, tb1 (i := 7) rfl, by decide, by decide, by decide +kernel⟩
theorem kw_440 : Cond.instanceMethod yX2_trace ∈ lw_tbl := tb2 (i := 41) rfl
theorem kw_441 : Cond.selects RX2 yX2_trace yX2_trace ∈ lw_tbl := tsel (i := 14) (q := (⟨"UniverseLevels$Round", "trace", "(LUniverseLevels$State;LUniverseLevels$Lengths;II)V"⟩, 4)) rfl
theorem kw_442 : ((RX6, 258, yX4_take, "UniverseLevels") : String × Nat × MethodName × String) ∈ nestM := List.mem_of_getElem? (i := 16) rfl
theorem kw_443 : cwOk yX4_take cX4_take 4 none 3 := ⟨tb2 (i := 73) rfl, tb1 (i := 3) rfl, by decide, by decide, by decide +kernel⟩
theorem kw_444 : Cond.instanceMethod yX4_take ∈ lw_tbl := tb2 (i := 72) rfl
theorem kw_445 : Cond.selects RX4 yX4_take yX4_take ∈ lw_tbl := tsel (i := 19) (q := (⟨"UniverseLevels$State", "take", "(III)V"⟩, 6)) rfl
theorem kw_446 : Cond.methodLink RX6 144 yX6_pose ∈ lw_tbl := tb2 (i := 26) rfl
theorem kw_447 : cwOk yX6_pose cX6_pose 5 (some .int) 3 := ⟨tb2 (i := 29) rfl, tb1 (i := 1) rfl, by decide, by decide, by decide +kernel⟩
theorem kw_448 : Cond.instanceMethod yX6_pose ∈ lw_tbl := tb2 (i := 28) rfl
theorem kw_449 : Cond.selects RX6 yX6_pose yX6_pose ∈ lw_tbl := tsel (i := 11) (q := (⟨"UniverseLevels", "pose", "(III)I"⟩, 13)) rfl
theorem kw_450 : Cond.fieldLink RX6 27 (TX6 4).1 (TX6 4).2.1 (TX6 4).2.2.1 ∈ lw_tbl := tb2 (i := 78) rfl
theorem kw_451 : ((RX6, 251, yX4_addLevel, "UniverseLevels") : String × Nat × MethodName × String) ∈ nestM := List.mem_of_getElem? (i := 9) rfl
theorem kw_452 : cwOk yX4_addLevel cX4_addLevel 2 none 1 := ⟨tb2 (i := 9) rfl, tb1 (i := 3) rfl, by decide, by decide, by decide +kernel⟩
theorem kw_453 : Cond.instanceMethod yX4_addLevel ∈ lw_tbl := tb2 (i := 8) rfl
theorem kw_454 : Cond.selects RX4 yX4_addLevel yX4_addLevel ∈ lw_tbl := tsel (i := 7) (q := (⟨"UniverseLevels$State", "addLevel", "(I)V"⟩, 6)) rfl
theorem kw_455 : ((RX6, 238, yX5_letterAt, "UniverseLevels") : String × Nat × MethodName × String) ∈ nestM := List.mem_of_getElem? (i := 7) rfl
theorem kw_456 : ((RX6, 241, yX5_readItem, "UniverseLevels") : String × Nat × MethodName × String) ∈ nestM := List.mem_of_getElem? (i := 8) rfl
theorem kw_457 : ((RX6, 244, (TX5 1).1, (TX5 1).2.1, (TX5 1).2.2.1, "UniverseLevels") : String × Nat × String × String × String × String) ∈ nestF := List.mem_of_getElem? (i := 0) rfl
theorem kw_458 : Cond.methodLink RX6 247 yX6_layItem ∈ lw_tbl := tb2 (i := 2) rfl
theorem kw_459 : cwOk yX6_layItem cX6_layItem 3 none 2 := ⟨tb2 (i := 5) rfl, tb1 (i := 1) rfl, by decide, by decide, by decide +kernel⟩
theorem kw_460 : Cond.instanceMethod yX6_layItem ∈ lw_tbl := tb2 (i := 4) rfl
theorem kw_461 : Cond.selects RX6 yX6_layItem yX6_layItem ∈ lw_tbl := tsel (i := 6) (q := (⟨"UniverseLevels", "layItem", "(I[I)V"⟩, 13)) rfl
theorem kw_462 : Cond.methodLink RX6 81 yX6_layText ∈ lw_tbl := tb1 (i := 215) rfl
theorem kw_463 : cwOk yX6_layText cX6_layText 4 none 0 := ⟨tb1 (i := 218) rfl, tb1 (i := 1) rfl, by decide, by decide, by decide +kernel⟩
theorem kw_464 : Cond.instanceMethod yX6_layText ∈ lw_tbl := tb1 (i := 217) rfl
theorem kw_465 : Cond.selects RX6 yX6_layText yX6_layText ∈ lw_tbl := tsel (i := 1) (q := (⟨"UniverseLevels", "layText", "()V"⟩, 13)) rfl
section
def W_X6_resume (cI cS cII : ClassId) (RA : Nat → Nat) (SA : Nat → Nat) (R_u : Int32) (R_q : Int32) (R_r : Int32) (N_k : Nat → Int32) (N_f : Nat → Int32) (N_t : Nat → Int32) (N_w : Nat → Int32) (N_l : Int32) (N_b : Int32) (S_k : Nat → Int32) (S_f : Nat → Int32) (S_t : Nat → Int32) (S_w : Nat → Int32) (S_l : Int32) (S_b : Int32) (L_G : Nat → Nat → Int32) (L_l : Int32) : va_W := ([((RA 0), .inr (6, [.ref (RA 1), .ref (RA 4), .ref (RA 9), .int R_u, .ref (RA 10), .int R_q, .ref (RA 11), .ref (RA 23), .ref (RA 24), .ref (RA 28), .ref (RA 31), .ref (RA 34), .int R_r])), ((RA 4), .inr (4, [.ref (RA 5), .ref (RA 6), .ref (RA 7), .ref (RA 8), .int N_l, .int N_b])), ((RA 5), .inl (cI, 10, .inl N_k)), ((RA 6), .inl (cI, 16, .inl N_f)), ((RA 7), .inl (cI, 16, .inl N_t)), ((RA 8), .inl (cI, 16, .inl N_w)), ((SA 0), .inr (4, [.ref (SA 1), .ref (SA 2), .ref (SA 3), .ref (SA 4), .int S_l, .int S_b])), ((SA 1), .inl (cI, 10, .inl S_k)), ((SA 2), .inl (cI, 16, .inl S_f)), ((SA 3), .inl (cI, 16, .inl S_t)), ((SA 4), .inl (cI, 16, .inl S_w)), ((RA 11), .inr (1, [.ref (RA 12), .int L_l])), ((RA 12), .inl (cII, 10, .inr (.inr (.inr (.inr (fun i => some (RA (i + 13))))))))] ++ rw10 cI (fun i => RA (i + 13)) L_G)
abbrev Rm_X6_resume : Room := { frames := 3, cells := 0, slots := 0, locals := 81 }
variable {l : Launch} {D : va_G} {cI cS cII : ClassId} {RA : Nat → Nat} {SA : Nat → Nat} {A : Nat → Prop} {J : jT}
variable {z_N_k : Nat → Int32} {z_N_f : Nat → Int32} {z_N_t : Nat → Int32} {z_N_w : Nat → Int32} {z_N_l : Int32} {z_N_b : Int32} {z_L_G : Nat → Nat → Int32} {z_L_l : Int32}
def p_X6_resume (N_k : Nat → Int32) (N_f : Nat → Int32) (N_t : Nat → Int32) (N_w : Nat → Int32) (N_l : Int32) (N_b : Int32) (S_k : Nat → Int32) (S_f : Nat → Int32) (S_t : Nat → Int32) (S_w : Nat → Int32) (S_l : Int32) (S_b : Int32) (L_G : Nat → Nat → Int32) (L_l : Int32) : Option ((Nat → Int32) × (Nat → Int32) × (Nat → Int32) × (Nat → Int32) × Int32 × Int32 × (Nat → Nat → Int32) × Int32) := (p_X4_copy N_k N_f N_t N_w N_l N_b S_k S_f S_t S_w S_l S_b).bind fun (g2, g3, g4, g5, g6, g7) => (p_X1_measure g3 g4 g5 g6 g7 L_G L_l).bind fun (g9, g10) => some (g2, g3, g4, g5, g6, g7, g9, g10)
end
set_option maxRecDepth 100000 in
theorem c_X6_resume (l : Launch) (D : va_G) (cI cS cII : ClassId) (RA : Nat → Nat) (SA : Nat → Nat) (R_u : Int32) (R_q : Int32) (R_r : Int32) (N_k : Nat → Int32) (N_f : Nat → Int32) (N_t : Nat → Int32) (N_w : Nat → Int32) (N_l : Int32) (N_b : Int32) (S_k : Nat → Int32) (S_f : Nat → Int32) (S_t : Nat → Int32) (S_w : Nat → Int32) (S_l : Int32) (S_b : Int32) (L_G : Nat → Nat → Int32) (L_l : Int32)  {z_N_k : Nat → Int32} {z_N_f : Nat → Int32} {z_N_t : Nat → Int32} {z_N_w : Nat → Int32} {z_N_l : Int32} {z_N_b : Int32} {z_L_G : Nat → Nat → Int32} {z_L_l : Int32} (hF : p_X6_resume N_k N_f N_t N_w N_l N_b S_k S_f S_t S_w S_l S_b L_G L_l = some (z_N_k, z_N_f, z_N_t, z_N_w, z_N_l, z_N_b, z_L_G, z_L_l)) : MJ l yX6_resume cX6_resume 2 none Rm_X6_resume D (tysU cI cS cII) [.ref (RA 0), .ref (SA 0)] (W_X6_resume cI cS cII RA SA R_u R_q R_r N_k N_f N_t N_w N_l N_b S_k S_f S_t S_w S_l S_b L_G L_l) none (W_X6_resume cI cS cII RA SA R_u R_q R_r z_N_k z_N_f z_N_t z_N_w z_N_l z_N_b S_k S_f S_t S_w S_l S_b z_L_G z_L_l) := by
  refine mj_of (own := RX6) (by decide) rfl (Nat.le_of_ble_eq_true rfl) (fun J hJ => ?_)
  show J (W_X6_resume cI cS cII RA SA R_u R_q R_r N_k N_f N_t N_w N_l N_b S_k S_f S_t S_w S_l S_b L_G L_l) 0 [(0, .ref (RA 0)), (1, .ref (SA 0))] []
  unfold p_X6_resume at hF
  refine jj_aload_n hJ dX6_resume_0 0 rfl rfl ?_
  refine jj_get hJ lay_X6 dX6_resume_1 0 1 rfl rfl (Nat.le_of_ble_eq_true rfl) kw_306 rfl ?_
  refine jj_aload_n hJ dX6_resume_4 1 rfl rfl ?_
  obtain ⟨⟨g2, g3, g4, g5, g6, g7⟩, h1, hF⟩ := ob hF
  refine jj_callN hJ (c_X4_copy l D cI cS cII (fun i => RA (i + 4)) SA N_k N_f N_t N_w N_l N_b S_k S_f S_t S_w S_l S_b  h1) dX6_resume_5 kw_419 ⟨Nat.le_of_ble_eq_true rfl, Nat.le_of_ble_eq_true rfl, rfl, rfl⟩ kw_418 kw_420 kw_421 1 rfl rfl rfl rfl (Nat.le_of_ble_eq_true rfl) [1, 2, 3, 4, 5, 6, 7, 8, 9, 10] rfl rfl (wn := (W_X6_resume cI cS cII RA SA R_u R_q R_r g2 g3 g4 g5 g6 g7 S_k S_f S_t S_w S_l S_b L_G L_l)) (jNew_sel rfl [none, some 0, some 1, some 2, some 3, some 4, some 5, some 6, some 7, some 8, some 9, none, none, none, none, none, none, none, none, none, none, none, none] (by decide +kernel) rfl) ?_
  refine jj_aload_n hJ dX6_resume_8 0 rfl rfl ?_
  refine jj_get hJ lay_X6 dX6_resume_9 0 6 rfl rfl (Nat.le_of_ble_eq_true rfl) kw_308 rfl ?_
  refine jj_aload_n hJ dX6_resume_12 0 rfl rfl ?_
  refine jj_get hJ lay_X6 dX6_resume_13 0 1 rfl rfl (Nat.le_of_ble_eq_true rfl) kw_306 rfl ?_
  obtain ⟨⟨g9, g10⟩, h8, hF⟩ := ob hF
  refine jj_callN hJ (c_X1_measure l D cI cS cII (fun i => RA (i + 4)) (fun i => RA (i + 11)) g2 g3 g4 g5 g6 g7 L_G L_l  h8) dX6_resume_16 kw_431 ⟨Nat.le_of_ble_eq_true rfl, Nat.le_of_ble_eq_true rfl, rfl, rfl⟩ kw_430 kw_432 kw_433 11 rfl rfl rfl rfl (Nat.le_of_ble_eq_true rfl) [1, 2, 3, 4, 5, 11, 12, 13, 14, 15, 16, 17, 18, 19, 20, 21, 22] rfl rfl (wn := (W_X6_resume cI cS cII RA SA R_u R_q R_r g2 g3 g4 g5 g6 g7 S_k S_f S_t S_w S_l S_b g9 g10)) (jNew_sel rfl [none, some 0, some 1, some 2, some 3, some 4, none, none, none, none, none, some 5, some 6, some 7, some 8, some 9, some 10, some 11, some 12, some 13, some 14, some 15, some 16] (by decide +kernel) rfl) ?_
  cases Option.some.inj hF
  exact jj_vret hJ dX6_resume_19
section
def W_X6_undo (cI cS cII : ClassId) (RA : Nat → Nat) (R_u : Int32) (R_q : Int32) (R_r : Int32) (N_k : Nat → Int32) (N_f : Nat → Int32) (N_t : Nat → Int32) (N_w : Nat → Int32) (N_l : Int32) (N_b : Int32) (E_p : Nat → Nat) (E_k : Nat → Nat → Int32) (E_f : Nat → Nat → Int32) (E_t : Nat → Nat → Int32) (E_w : Nat → Nat → Int32) (E_l : Nat → Int32) (E_b : Nat → Int32) (L_G : Nat → Nat → Int32) (L_l : Int32) : va_W := (([((RA 0), .inr (6, [.ref (RA 1), .ref (RA 4), .ref (RA 9), .int R_u, .ref (RA 10), .int R_q, .ref (RA 11), .ref (RA 23), .ref (RA 24), .ref (RA 28), .ref (RA 31), .ref (RA 34), .int R_r])), ((RA 4), .inr (4, [.ref (RA 5), .ref (RA 6), .ref (RA 7), .ref (RA 8), .int N_l, .int N_b])), ((RA 5), .inl (cI, 10, .inl N_k)), ((RA 6), .inl (cI, 16, .inl N_f)), ((RA 7), .inl (cI, 16, .inl N_t)), ((RA 8), .inl (cI, 16, .inl N_w)), ((RA 11), .inr (1, [.ref (RA 12), .int L_l])), ((RA 12), .inl (cII, 10, .inr (.inr (.inr (.inr (fun i => some (RA (i + 13))))))))] ++ earW cI cS RA E_p E_k E_f E_t E_w E_l E_b) ++ rw10 cI (fun i => RA (i + 13)) L_G)
abbrev Rm_X6_undo : Room := { frames := 4, cells := 0, slots := 0, locals := 102 }
variable {l : Launch} {D : va_G} {cI cS cII : ClassId} {RA : Nat → Nat} {A : Nat → Prop} {J : jT}
variable {z_r : Int32} {z_R_u : Int32} {z_N_k : Nat → Int32} {z_N_f : Nat → Int32} {z_N_t : Nat → Int32} {z_N_w : Nat → Int32} {z_N_l : Int32} {z_N_b : Int32} {z_L_G : Nat → Nat → Int32} {z_L_l : Int32}
def p_X6_undo (R_u : Int32) (N_k : Nat → Int32) (N_f : Nat → Int32) (N_t : Nat → Int32) (N_w : Nat → Int32) (N_l : Int32) (N_b : Int32) (E_p : Nat → Nat) (E_k : Nat → Nat → Int32) (E_f : Nat → Nat → Int32) (E_t : Nat → Nat → Int32) (E_w : Nat → Nat → Int32) (E_l : Nat → Int32) (E_b : Nat → Int32) (L_G : Nat → Nat → Int32) (L_l : Int32) : Option (Int32 × Int32 × (Nat → Int32) × (Nat → Int32) × (Nat → Int32) × (Nat → Int32) × Int32 × Int32 × (Nat → Nat → Int32) × Int32) := if 0 < R_u then ((ix 8 (R_u - 1)).bind fun j2 => (ck 8 (E_p j2)).bind fun _ => (p_X6_resume N_k N_f N_t N_w N_l N_b (E_k ((E_p j2))) (E_f ((E_p j2))) (E_t ((E_p j2))) (E_w ((E_p j2))) (E_l ((E_p j2))) (E_b ((E_p j2))) L_G L_l).bind fun (g6, g7, g8, g9, g10, g11, g12, g13) => some (R_u - 1, R_u - 1, g6, g7, g8, g9, g10, g11, g12, g13)) else (some ((-2), R_u, N_k, N_f, N_t, N_w, N_l, N_b, L_G, L_l))
end
set_option maxRecDepth 100000 in
theorem c_X6_undo (l : Launch) (D : va_G) (cI cS cII : ClassId) (RA : Nat → Nat) (R_u : Int32) (R_q : Int32) (R_r : Int32) (N_k : Nat → Int32) (N_f : Nat → Int32) (N_t : Nat → Int32) (N_w : Nat → Int32) (N_l : Int32) (N_b : Int32) (E_p : Nat → Nat) (E_k : Nat → Nat → Int32) (E_f : Nat → Nat → Int32) (E_t : Nat → Nat → Int32) (E_w : Nat → Nat → Int32) (E_l : Nat → Int32) (E_b : Nat → Int32) (L_G : Nat → Nat → Int32) (L_l : Int32)  {z_r : Int32} {z_R_u : Int32} {z_N_k : Nat → Int32} {z_N_f : Nat → Int32} {z_N_t : Nat → Int32} {z_N_w : Nat → Int32} {z_N_l : Int32} {z_N_b : Int32} {z_L_G : Nat → Nat → Int32} {z_L_l : Int32} (hF : p_X6_undo R_u N_k N_f N_t N_w N_l N_b E_p E_k E_f E_t E_w E_l E_b L_G L_l = some (z_r, z_R_u, z_N_k, z_N_f, z_N_t, z_N_w, z_N_l, z_N_b, z_L_G, z_L_l)) : MJ l yX6_undo cX6_undo 1 (some .int) Rm_X6_undo D (tysU cI cS cII) [.ref (RA 0)] (W_X6_undo cI cS cII RA R_u R_q R_r N_k N_f N_t N_w N_l N_b E_p E_k E_f E_t E_w E_l E_b L_G L_l) (some z_r) (W_X6_undo cI cS cII RA z_R_u R_q R_r z_N_k z_N_f z_N_t z_N_w z_N_l z_N_b E_p E_k E_f E_t E_w E_l E_b z_L_G z_L_l) := by
  refine mj_of (own := RX6) (by decide) rfl (Nat.le_of_ble_eq_true rfl) (fun J hJ => ?_)
  show J (W_X6_undo cI cS cII RA R_u R_q R_r N_k N_f N_t N_w N_l N_b E_p E_k E_f E_t E_w E_l E_b L_G L_l) 0 [(0, .ref (RA 0))] []
  unfold p_X6_undo at hF
  refine jj_aload_n hJ dX6_undo_0 0 rfl rfl ?_
  refine jj_get hJ lay_X6 dX6_undo_1 0 3 rfl rfl (Nat.le_of_ble_eq_true rfl) kw_407 rfl ?_
  refine jj_if_gt hJ 10 dX6_undo_4 rfl (fun c1 => ?_) (fun c1 => ?_)
  · replace hF := ip c1 hF
    refine jj_aload_n hJ dX6_undo_10 0 rfl rfl ?_
    refine jj_dup hJ dX6_undo_11 rfl ?_
    refine jj_get hJ lay_X6 dX6_undo_12 0 3 rfl rfl (Nat.le_of_ble_eq_true rfl) kw_407 rfl ?_
    refine jj_iconst hJ dX6_undo_15 ic_1 ?_
    refine jj_isub hJ dX6_undo_16 ?_
    refine jj_puti hJ lay_X6 tyX6 tyX6_ok nmX6 dX6_undo_17 0 3 rfl rfl (Nat.le_of_ble_eq_true rfl) kw_407 rfl rfl (Nat.le_of_ble_eq_true rfl) (wn := (W_X6_undo cI cS cII RA (R_u - 1) R_q R_r N_k N_f N_t N_w N_l N_b E_p E_k E_f E_t E_w E_l E_b L_G L_l)) rfl ?_
    refine jj_aload_n hJ dX6_undo_20 0 rfl rfl ?_
    refine jj_aload_n hJ dX6_undo_21 0 rfl rfl ?_
    refine jj_get hJ lay_X6 dX6_undo_22 0 2 rfl rfl (Nat.le_of_ble_eq_true rfl) kw_417 rfl ?_
    refine jj_aload_n hJ dX6_undo_25 0 rfl rfl ?_
    refine jj_get hJ lay_X6 dX6_undo_26 0 3 rfl rfl (Nat.le_of_ble_eq_true rfl) kw_407 rfl ?_
    obtain ⟨j2, h3, hF⟩ := ob hF
    obtain ⟨_, h4, hF⟩ := ob hF
    refine jj_aald hJ dX6_undo_29 8 1 rfl rfl rfl (ix_some h3).1 (congrArg (fun i => some (RA (E_p i + 37))) (ix_some h3).2.1) ?_
    obtain ⟨⟨g6, g7, g8, g9, g10, g11, g12, g13⟩, h5, hF⟩ := ob hF
    refine jj_callV hJ (c_X6_resume l D cI cS cII RA (fun c => RA ((E_p j2) + 8 * c + 37)) (R_u - 1) R_q R_r N_k N_f N_t N_w N_l N_b (E_k ((E_p j2))) (E_f ((E_p j2))) (E_t ((E_p j2))) (E_w ((E_p j2))) (E_l ((E_p j2))) (E_b ((E_p j2))) L_G L_l  h5) dX6_undo_30 kw_435 ⟨Nat.le_of_ble_eq_true rfl, Nat.le_of_ble_eq_true rfl, rfl, rfl⟩ kw_434 kw_436 kw_437 0 rfl rfl rfl rfl (Nat.le_of_ble_eq_true rfl) [0, 1, 2, 3, 4, 5, (9 + (E_p j2)), (17 + (E_p j2)), (25 + (E_p j2)), (33 + (E_p j2)), (41 + (E_p j2)), 6, 7, 49, 50, 51, 52, 53, 54, 55, 56, 57, 58] (by have hk9 := (ck_lt h4); revert hk9; generalize (E_p j2) = kk9; intro hk9; rcases lt8 hk9 with rfl | rfl | rfl | rfl | rfl | rfl | rfl | rfl <;> rfl) (by have hk9 := (ck_lt h4); revert hk9; generalize (E_p j2) = kk9; intro hk9; rcases lt8 hk9 with rfl | rfl | rfl | rfl | rfl | rfl | rfl | rfl <;> rfl) (wn := (W_X6_undo cI cS cII RA (R_u - 1) R_q R_r g6 g7 g8 g9 g10 g11 E_p E_k E_f E_t E_w E_l E_b g12 g13)) (by
      have hk9 := (ck_lt h4)
      revert hk9
      generalize (E_p j2) = kk9
      intro hk9
      rcases lt8 hk9 with rfl | rfl | rfl | rfl | rfl | rfl | rfl | rfl
      · exact jNew_sel rfl [some 0, some 1, some 2, some 3, some 4, some 5, some 11, some 12, none, some 6, none, none, none, none, none, none, none, some 7, none, none, none, none, none, none, none, some 8, none, none, none, none, none, none, none, some 9, none, none, none, none, none, none, none, some 10, none, none, none, none, none, none, none, some 13, some 14, some 15, some 16, some 17, some 18, some 19, some 20, some 21, some 22] (by decide +kernel) rfl
      · exact jNew_sel rfl [some 0, some 1, some 2, some 3, some 4, some 5, some 11, some 12, none, none, some 6, none, none, none, none, none, none, none, some 7, none, none, none, none, none, none, none, some 8, none, none, none, none, none, none, none, some 9, none, none, none, none, none, none, none, some 10, none, none, none, none, none, none, some 13, some 14, some 15, some 16, some 17, some 18, some 19, some 20, some 21, some 22] (by decide +kernel) rfl
      · exact jNew_sel rfl [some 0, some 1, some 2, some 3, some 4, some 5, some 11, some 12, none, none, none, some 6, none, none, none, none, none, none, none, some 7, none, none, none, none, none, none, none, some 8, none, none, none, none, none, none, none, some 9, none, none, none, none, none, none, none, some 10, none, none, none, none, none, some 13, some 14, some 15, some 16, some 17, some 18, some 19, some 20, some 21, some 22] (by decide +kernel) rfl
      · exact jNew_sel rfl [some 0, some 1, some 2, some 3, some 4, some 5, some 11, some 12, none, none, none, none, some 6, none, none, none, none, none, none, none, some 7, none, none, none, none, none, none, none, some 8, none, none, none, none, none, none, none, some 9, none, none, none, none, none, none, none, some 10, none, none, none, none, some 13, some 14, some 15, some 16, some 17, some 18, some 19, some 20, some 21, some 22] (by decide +kernel) rfl
      · exact jNew_sel rfl [some 0, some 1, some 2, some 3, some 4, some 5, some 11, some 12, none, none, none, none, none, some 6, none, none, none, none, none, none, none, some 7, none, none, none, none, none, none, none, some 8, none, none, none, none, none, none, none, some 9, none, none, none, none, none, none, none, some 10, none, none, none, some 13, some 14, some 15, some 16, some 17, some 18, some 19, some 20, some 21, some 22] (by decide +kernel) rfl
      · exact jNew_sel rfl [some 0, some 1, some 2, some 3, some 4, some 5, some 11, some 12, none, none, none, none, none, none, some 6, none, none, none, none, none, none, none, some 7, none, none, none, none, none, none, none, some 8, none, none, none, none, none, none, none, some 9, none, none, none, none, none, none, none, some 10, none, none, some 13, some 14, some 15, some 16, some 17, some 18, some 19, some 20, some 21, some 22] (by decide +kernel) rfl
      · exact jNew_sel rfl [some 0, some 1, some 2, some 3, some 4, some 5, some 11, some 12, none, none, none, none, none, none, none, some 6, none, none, none, none, none, none, none, some 7, none, none, none, none, none, none, none, some 8, none, none, none, none, none, none, none, some 9, none, none, none, none, none, none, none, some 10, none, some 13, some 14, some 15, some 16, some 17, some 18, some 19, some 20, some 21, some 22] (by decide +kernel) rfl
      · exact jNew_sel rfl [some 0, some 1, some 2, some 3, some 4, some 5, some 11, some 12, none, none, none, none, none, none, none, none, some 6, none, none, none, none, none, none, none, some 7, none, none, none, none, none, none, none, some 8, none, none, none, none, none, none, none, some 9, none, none, none, none, none, none, none, some 10, some 13, some 14, some 15, some 16, some 17, some 18, some 19, some 20, some 21, some 22] (by decide +kernel) rfl) ?_
    refine jj_aload_n hJ dX6_undo_33 0 rfl rfl ?_
    refine jj_get hJ lay_X6 dX6_undo_34 0 3 rfl rfl (Nat.le_of_ble_eq_true rfl) kw_407 rfl ?_
    cases Option.some.inj hF
    exact jj_iret hJ dX6_undo_37
  · replace hF := iq c1 hF
    refine jj_bipush hJ dX6_undo_7 bp_m2 ?_
    cases Option.some.inj hF
    exact jj_iret hJ dX6_undo_9
section
def W_X6_pose (cI cS cII : ClassId) (RA : Nat → Nat) (R_u : Int32) (R_q : Int32) (R_r : Int32) (O_v : Nat → Int32) (O_n : Nat → Int32) (O_s : Int32) (O_a : Int32) (N_k : Nat → Int32) (N_f : Nat → Int32) (N_t : Nat → Int32) (N_w : Nat → Int32) (N_l : Int32) (N_b : Int32) (E_p : Nat → Nat) (E_k : Nat → Nat → Int32) (E_f : Nat → Nat → Int32) (E_t : Nat → Nat → Int32) (E_w : Nat → Nat → Int32) (E_l : Nat → Int32) (E_b : Nat → Int32) (L_G : Nat → Nat → Int32) (L_l : Int32) : va_W := (([((RA 0), .inr (6, [.ref (RA 1), .ref (RA 4), .ref (RA 9), .int R_u, .ref (RA 10), .int R_q, .ref (RA 11), .ref (RA 23), .ref (RA 24), .ref (RA 28), .ref (RA 31), .ref (RA 34), .int R_r])), ((RA 34), .inr (2, [.ref (RA 35), .ref (RA 36), .int O_s, .int O_a])), ((RA 35), .inl (cI, 10, .inl O_v)), ((RA 36), .inl (cI, 10, .inl O_n)), ((RA 4), .inr (4, [.ref (RA 5), .ref (RA 6), .ref (RA 7), .ref (RA 8), .int N_l, .int N_b])), ((RA 5), .inl (cI, 10, .inl N_k)), ((RA 6), .inl (cI, 16, .inl N_f)), ((RA 7), .inl (cI, 16, .inl N_t)), ((RA 8), .inl (cI, 16, .inl N_w)), ((RA 11), .inr (1, [.ref (RA 12), .int L_l])), ((RA 12), .inl (cII, 10, .inr (.inr (.inr (.inr (fun i => some (RA (i + 13))))))))] ++ earW cI cS RA E_p E_k E_f E_t E_w E_l E_b) ++ rw10 cI (fun i => RA (i + 13)) L_G)
abbrev Rm_X6_pose : Room := { frames := 3, cells := 0, slots := 0, locals := 103 }
variable {l : Launch} {D : va_G} {cI cS cII : ClassId} {RA : Nat → Nat} {A : Nat → Prop} {J : jT}
variable {z_r : Int32} {z_R_u : Int32} {z_R_r : Int32} {z_O_v : Nat → Int32} {z_O_n : Nat → Int32} {z_O_s : Int32} {z_O_a : Int32} {z_N_f : Nat → Int32} {z_N_t : Nat → Int32} {z_N_w : Nat → Int32} {z_N_b : Int32} {z_E_p : Nat → Nat} {z_E_k : Nat → Nat → Int32} {z_E_f : Nat → Nat → Int32} {z_E_t : Nat → Nat → Int32} {z_E_w : Nat → Nat → Int32} {z_E_l : Nat → Int32} {z_E_b : Nat → Int32} {z_L_G : Nat → Nat → Int32} {z_L_l : Int32}
def q_X6_pose_91 (N_k : Nat → Int32) (N_l : Int32) (a1 : Int32) (a2 : Int32) (a3 : Int32)  (v4 : Int32) (R_u : Int32) (R_r : Int32) (O_v : Nat → Int32) (O_n : Nat → Int32) (O_s : Int32) (O_a : Int32) (N_f : Nat → Int32) (N_t : Nat → Int32) (N_w : Nat → Int32) (N_b : Int32) (E_p : Nat → Nat) (E_k : Nat → Nat → Int32) (E_f : Nat → Nat → Int32) (E_t : Nat → Nat → Int32) (E_w : Nat → Nat → Int32) (E_l : Nat → Int32) (E_b : Nat → Int32) (L_G : Nat → Nat → Int32) (L_l : Int32) : Option (Int32 × Int32 × Int32 × (Nat → Int32) × (Nat → Int32) × Int32 × Int32 × (Nat → Int32) × (Nat → Int32) × (Nat → Int32) × Int32 × (Nat → Nat) × (Nat → Nat → Int32) × (Nat → Nat → Int32) × (Nat → Nat → Int32) × (Nat → Nat → Int32) × (Nat → Int32) × (Nat → Int32) × (Nat → Nat → Int32) × Int32) := if N_b < 16 then ((p_X6_remember R_u N_k N_f N_t N_w N_l N_b E_p E_k E_f E_t E_w E_l E_b).bind fun (g3, g4, g5, g6, g7, g8, g9, g10) => (p_X4_take N_f N_t N_w N_b a1 v4 a3).bind fun (g12, g13, g14, g15) => (p_X1_measure g12 g13 g14 N_l g15 L_G L_l).bind fun (g17, g18) => some (g15 - 1, g3, R_r, O_v, O_n, O_s, O_a, g12, g13, g14, g15, g4, g5, g6, g7, g8, g9, g10, g17, g18)) else (some ((-3), R_u, R_r, O_v, O_n, O_s, O_a, N_f, N_t, N_w, N_b, E_p, E_k, E_f, E_t, E_w, E_l, E_b, L_G, L_l))
set_option maxRecDepth 100000 in
theorem w_X6_pose_91 {R_q : Int32} {N_k : Nat → Int32} {N_l : Int32} {a1 : Int32} {a2 : Int32} {a3 : Int32}  (hJ : jJ l cX6_pose 5 D (tysU cI cS cII) RX6 Rm_X6_pose (some .int) A (some z_r) (W_X6_pose cI cS cII RA z_R_u R_q z_R_r z_O_v z_O_n z_O_s z_O_a N_k z_N_f z_N_t z_N_w N_l z_N_b z_E_p z_E_k z_E_f z_E_t z_E_w z_E_l z_E_b z_L_G z_L_l) J)  : ∀ (v4 : Int32) (R_u : Int32) (R_r : Int32) (O_v : Nat → Int32) (O_n : Nat → Int32) (O_s : Int32) (O_a : Int32) (N_f : Nat → Int32) (N_t : Nat → Int32) (N_w : Nat → Int32) (N_b : Int32) (E_p : Nat → Nat) (E_k : Nat → Nat → Int32) (E_f : Nat → Nat → Int32) (E_t : Nat → Nat → Int32) (E_w : Nat → Nat → Int32) (E_l : Nat → Int32) (E_b : Nat → Int32) (L_G : Nat → Nat → Int32) (L_l : Int32), q_X6_pose_91 N_k N_l a1 a2 a3 v4 R_u R_r O_v O_n O_s O_a N_f N_t N_w N_b E_p E_k E_f E_t E_w E_l E_b L_G L_l = some (z_r, z_R_u, z_R_r, z_O_v, z_O_n, z_O_s, z_O_a, z_N_f, z_N_t, z_N_w, z_N_b, z_E_p, z_E_k, z_E_f, z_E_t, z_E_w, z_E_l, z_E_b, z_L_G, z_L_l) → J (W_X6_pose cI cS cII RA R_u R_q R_r O_v O_n O_s O_a N_k N_f N_t N_w N_l N_b E_p E_k E_f E_t E_w E_l E_b L_G L_l) 91 [(4, .int v4), (0, .ref (RA 0)), (1, .int a1), (3, .int a3)] [] := by
  intro v4 R_u R_r O_v O_n O_s O_a N_f N_t N_w N_b E_p E_k E_f E_t E_w E_l E_b L_G L_l hF
  unfold q_X6_pose_91 at hF
  refine jj_aload_n hJ dX6_pose_91 1 rfl rfl ?_
  refine jj_get hJ lay_X6 dX6_pose_92 0 1 rfl rfl (Nat.le_of_ble_eq_true rfl) kw_306 rfl ?_
  refine jj_getN hJ lay_X4 dX6_pose_95 4 5 rfl rfl (Nat.le_of_ble_eq_true rfl) kw_328 rfl ?_
  refine jj_bipush hJ dX6_pose_98 bp_16 ?_
  refine jj_icmp_lt hJ 106 dX6_pose_100 rfl (fun c1 => ?_) (fun c1 => ?_)
  · replace hF := ip c1 hF
    refine jj_aload_n hJ dX6_pose_106 1 rfl rfl ?_
    obtain ⟨⟨g3, g4, g5, g6, g7, g8, g9, g10⟩, h2, hF⟩ := ob hF
    refine jj_callV hJ (c_X6_remember l D cI cS cII RA R_u R_q R_r N_k N_f N_t N_w N_l N_b E_p E_k E_f E_t E_w E_l E_b  h2) dX6_pose_107 kw_423 ⟨Nat.le_of_ble_eq_true rfl, Nat.le_of_ble_eq_true rfl, rfl, rfl⟩ kw_422 kw_424 kw_425 0 rfl rfl rfl rfl (Nat.le_of_ble_eq_true rfl) [0, 4, 5, 6, 7, 8, 11, 12, 13, 14, 15, 16, 17, 18, 19, 20, 21, 22, 23, 24, 25, 26, 27, 28, 29, 30, 31, 32, 33, 34, 35, 36, 37, 38, 39, 40, 41, 42, 43, 44, 45, 46, 47, 48, 49, 50, 51] rfl rfl (wn := (W_X6_pose cI cS cII RA g3 R_q R_r O_v O_n O_s O_a N_k N_f N_t N_w N_l N_b g4 g5 g6 g7 g8 g9 g10 L_G L_l)) (jNew_sel rfl [some 0, none, none, none, some 1, some 2, some 3, some 4, some 5, none, none, some 6, some 7, some 8, some 9, some 10, some 11, some 12, some 13, some 14, some 15, some 16, some 17, some 18, some 19, some 20, some 21, some 22, some 23, some 24, some 25, some 26, some 27, some 28, some 29, some 30, some 31, some 32, some 33, some 34, some 35, some 36, some 37, some 38, some 39, some 40, some 41, some 42, some 43, some 44, some 45, some 46, none, none, none, none, none, none, none, none, none, none] (by decide +kernel) rfl) ?_
    refine jj_aload_n hJ dX6_pose_110 1 rfl rfl ?_
    refine jj_get hJ lay_X6 dX6_pose_111 0 1 rfl rfl (Nat.le_of_ble_eq_true rfl) kw_306 rfl ?_
    refine jj_iload_n hJ dX6_pose_114 2 rfl rfl ?_
    refine jj_iload hJ dX6_pose_115 0 rfl ?_
    refine jj_iload_n hJ dX6_pose_117 3 rfl rfl ?_
    obtain ⟨⟨g12, g13, g14, g15⟩, h11, hF⟩ := ob hF
    refine jj_callN hJ (c_X4_take l D cI cS cII (fun i => RA (i + 4)) N_k N_f N_t N_w N_l N_b a1 v4 a3 h11) dX6_pose_118 kw_443 ⟨Nat.le_of_ble_eq_true rfl, Nat.le_of_ble_eq_true rfl, rfl, rfl⟩ kw_442 kw_444 kw_445 4 rfl rfl rfl rfl (Nat.le_of_ble_eq_true rfl) [4, 5, 6, 7, 8] rfl rfl (wn := (W_X6_pose cI cS cII RA g3 R_q R_r O_v O_n O_s O_a N_k g12 g13 g14 N_l g15 g4 g5 g6 g7 g8 g9 g10 L_G L_l)) (jNew_sel rfl [none, none, none, none, some 0, some 1, some 2, some 3, some 4, none, none, none, none, none, none, none, none, none, none, none, none, none, none, none, none, none, none, none, none, none, none, none, none, none, none, none, none, none, none, none, none, none, none, none, none, none, none, none, none, none, none, none, none, none, none, none, none, none, none, none, none, none] (by decide +kernel) rfl) ?_
    refine jj_aload_n hJ dX6_pose_121 1 rfl rfl ?_
    refine jj_get hJ lay_X6 dX6_pose_122 0 6 rfl rfl (Nat.le_of_ble_eq_true rfl) kw_308 rfl ?_
    refine jj_aload_n hJ dX6_pose_125 1 rfl rfl ?_
    refine jj_get hJ lay_X6 dX6_pose_126 0 1 rfl rfl (Nat.le_of_ble_eq_true rfl) kw_306 rfl ?_
    obtain ⟨⟨g17, g18⟩, h16, hF⟩ := ob hF
    refine jj_callN hJ (c_X1_measure l D cI cS cII (fun i => RA (i + 4)) (fun i => RA (i + 11)) N_k g12 g13 g14 N_l g15 L_G L_l  h16) dX6_pose_129 kw_431 ⟨Nat.le_of_ble_eq_true rfl, Nat.le_of_ble_eq_true rfl, rfl, rfl⟩ kw_430 kw_432 kw_433 9 rfl rfl rfl rfl (Nat.le_of_ble_eq_true rfl) [4, 5, 6, 7, 8, 9, 10, 52, 53, 54, 55, 56, 57, 58, 59, 60, 61] rfl rfl (wn := (W_X6_pose cI cS cII RA g3 R_q R_r O_v O_n O_s O_a N_k g12 g13 g14 N_l g15 g4 g5 g6 g7 g8 g9 g10 g17 g18)) (jNew_sel rfl [none, none, none, none, some 0, some 1, some 2, some 3, some 4, some 5, some 6, none, none, none, none, none, none, none, none, none, none, none, none, none, none, none, none, none, none, none, none, none, none, none, none, none, none, none, none, none, none, none, none, none, none, none, none, none, none, none, none, none, some 7, some 8, some 9, some 10, some 11, some 12, some 13, some 14, some 15, some 16] (by decide +kernel) rfl) ?_
    refine jj_aload_n hJ dX6_pose_132 1 rfl rfl ?_
    refine jj_get hJ lay_X6 dX6_pose_133 0 1 rfl rfl (Nat.le_of_ble_eq_true rfl) kw_306 rfl ?_
    refine jj_getN hJ lay_X4 dX6_pose_136 4 5 rfl rfl (Nat.le_of_ble_eq_true rfl) kw_328 rfl ?_
    refine jj_iconst hJ dX6_pose_139 ic_1 ?_
    refine jj_isub hJ dX6_pose_140 ?_
    cases Option.some.inj hF
    exact jj_iret hJ dX6_pose_141
  · replace hF := iq c1 hF
    refine jj_bipush hJ dX6_pose_103 bp_m3 ?_
    cases Option.some.inj hF
    exact jj_iret hJ dX6_pose_105
def p_X6_pose (R_u : Int32) (R_r : Int32) (O_v : Nat → Int32) (O_n : Nat → Int32) (O_s : Int32) (O_a : Int32) (N_k : Nat → Int32) (N_f : Nat → Int32) (N_t : Nat → Int32) (N_w : Nat → Int32) (N_l : Int32) (N_b : Int32) (E_p : Nat → Nat) (E_k : Nat → Nat → Int32) (E_f : Nat → Nat → Int32) (E_t : Nat → Nat → Int32) (E_w : Nat → Nat → Int32) (E_l : Nat → Int32) (E_b : Nat → Int32) (L_G : Nat → Nat → Int32) (L_l : Int32) (a1 : Int32) (a2 : Int32) (a3 : Int32) : Option (Int32 × Int32 × Int32 × (Nat → Int32) × (Nat → Int32) × Int32 × Int32 × (Nat → Int32) × (Nat → Int32) × (Nat → Int32) × Int32 × (Nat → Nat) × (Nat → Nat → Int32) × (Nat → Nat → Int32) × (Nat → Nat → Int32) × (Nat → Nat → Int32) × (Nat → Int32) × (Nat → Int32) × (Nat → Nat → Int32) × Int32) := (p_X4_weightTowards N_k a3 a2).bind fun r2 => (p_X1_leads L_G a3 a1).bind fun r4 => if r4 = 0 then (q_X6_pose_91 N_k N_l a1 a2 a3 r2 R_u R_r O_v O_n O_s O_a N_f N_t N_w N_b E_p E_k E_f E_t E_w E_l E_b L_G L_l) else ((ix 10 a3).bind fun j6 => (rd (L_G j6) 10 a1).bind fun x8 => if (x8 + r2) ≤ 0 then (q_X6_pose_91 N_k N_l a1 a2 a3 r2 R_u R_r O_v O_n O_s O_a N_f N_t N_w N_b E_p E_k E_f E_t E_w E_l E_b L_G L_l) else ((p_X2_trace O_v O_n O_s N_f N_t N_w N_l N_b L_G a3 a1).bind fun (g12, g13, g14) => (ix 10 a3).bind fun j15 => (rd (L_G j15) 10 a1).bind fun x17 => some ((-2), R_u, R_r + 1, g12, g13, g14, x17 + r2, N_f, N_t, N_w, N_b, E_p, E_k, E_f, E_t, E_w, E_l, E_b, L_G, L_l)))
end
set_option maxRecDepth 100000 in
theorem c_X6_pose (l : Launch) (D : va_G) (cI cS cII : ClassId) (RA : Nat → Nat) (R_u : Int32) (R_q : Int32) (R_r : Int32) (O_v : Nat → Int32) (O_n : Nat → Int32) (O_s : Int32) (O_a : Int32) (N_k : Nat → Int32) (N_f : Nat → Int32) (N_t : Nat → Int32) (N_w : Nat → Int32) (N_l : Int32) (N_b : Int32) (E_p : Nat → Nat) (E_k : Nat → Nat → Int32) (E_f : Nat → Nat → Int32) (E_t : Nat → Nat → Int32) (E_w : Nat → Nat → Int32) (E_l : Nat → Int32) (E_b : Nat → Int32) (L_G : Nat → Nat → Int32) (L_l : Int32) (a1 : Int32) (a2 : Int32) (a3 : Int32) {z_r : Int32} {z_R_u : Int32} {z_R_r : Int32} {z_O_v : Nat → Int32} {z_O_n : Nat → Int32} {z_O_s : Int32} {z_O_a : Int32} {z_N_f : Nat → Int32} {z_N_t : Nat → Int32} {z_N_w : Nat → Int32} {z_N_b : Int32} {z_E_p : Nat → Nat} {z_E_k : Nat → Nat → Int32} {z_E_f : Nat → Nat → Int32} {z_E_t : Nat → Nat → Int32} {z_E_w : Nat → Nat → Int32} {z_E_l : Nat → Int32} {z_E_b : Nat → Int32} {z_L_G : Nat → Nat → Int32} {z_L_l : Int32} (hF : p_X6_pose R_u R_r O_v O_n O_s O_a N_k N_f N_t N_w N_l N_b E_p E_k E_f E_t E_w E_l E_b L_G L_l a1 a2 a3 = some (z_r, z_R_u, z_R_r, z_O_v, z_O_n, z_O_s, z_O_a, z_N_f, z_N_t, z_N_w, z_N_b, z_E_p, z_E_k, z_E_f, z_E_t, z_E_w, z_E_l, z_E_b, z_L_G, z_L_l)) : MJ l yX6_pose cX6_pose 5 (some .int) Rm_X6_pose D (tysU cI cS cII) [.ref (RA 0), .int a1, .int a2, .int a3] (W_X6_pose cI cS cII RA R_u R_q R_r O_v O_n O_s O_a N_k N_f N_t N_w N_l N_b E_p E_k E_f E_t E_w E_l E_b L_G L_l) (some z_r) (W_X6_pose cI cS cII RA z_R_u R_q z_R_r z_O_v z_O_n z_O_s z_O_a N_k z_N_f z_N_t z_N_w N_l z_N_b z_E_p z_E_k z_E_f z_E_t z_E_w z_E_l z_E_b z_L_G z_L_l) := by
  refine mj_of (own := RX6) (by decide) rfl (Nat.le_of_ble_eq_true rfl) (fun J hJ => ?_)
  show J (W_X6_pose cI cS cII RA R_u R_q R_r O_v O_n O_s O_a N_k N_f N_t N_w N_l N_b E_p E_k E_f E_t E_w E_l E_b L_G L_l) 0 [(0, .ref (RA 0)), (1, .int a1), (2, .int a2), (3, .int a3)] []
  unfold p_X6_pose at hF
  refine jj_aload_n hJ dX6_pose_0 0 rfl rfl ?_
  refine jj_get hJ lay_X6 dX6_pose_1 0 1 rfl rfl (Nat.le_of_ble_eq_true rfl) kw_306 rfl ?_
  refine jj_iload_n hJ dX6_pose_4 3 rfl rfl ?_
  refine jj_iload_n hJ dX6_pose_5 2 rfl rfl ?_
  obtain ⟨r2, h1, hF⟩ := ob hF
  refine jj_callN0 hJ (c_X4_weightTowards l D cI cS cII (fun i => RA (i + 4)) N_k N_f N_t N_w N_l N_b a3 a2 h1) dX6_pose_6 kw_361 ⟨Nat.le_of_ble_eq_true rfl, Nat.le_of_ble_eq_true rfl, rfl, rfl⟩ kw_360 kw_362 kw_363 4 rfl rfl rfl rfl (Nat.le_of_ble_eq_true rfl) [4, 5, 6, 7, 8] rfl rfl ?_
  refine jj_istore hJ dX6_pose_9 (Nat.le_of_ble_eq_true rfl) (lv' := [(4, .int r2), (0, .ref (RA 0)), (1, .int a1), (2, .int a2), (3, .int a3)]) rfl ?_
  refine jj_aload_n hJ dX6_pose_11 1 rfl rfl ?_
  refine jj_get hJ lay_X6 dX6_pose_12 0 6 rfl rfl (Nat.le_of_ble_eq_true rfl) kw_308 rfl ?_
  refine jj_iload_n hJ dX6_pose_15 4 rfl rfl ?_
  refine jj_iload_n hJ dX6_pose_16 2 rfl rfl ?_
  obtain ⟨r4, h3, hF⟩ := ob hF
  refine jj_callN0 hJ (c_X1_leads l D cI cS cII (fun i => RA (i + 11)) L_G L_l a3 a1 h3) dX6_pose_17 kw_27 ⟨Nat.le_of_ble_eq_true rfl, Nat.le_of_ble_eq_true rfl, rfl, rfl⟩ kw_334 kw_28 kw_29 9 rfl rfl rfl rfl (Nat.le_of_ble_eq_true rfl) [9, 10, 52, 53, 54, 55, 56, 57, 58, 59, 60, 61] rfl rfl ?_
  refine jj_if_eq hJ 91 dX6_pose_20 rfl (fun c5 => ?_) (fun c5 => ?_)
  · replace hF := ip c5 hF
    refine jj_lv hJ [0, 1, 2, 4] (lv' := [(4, .int r2), (0, .ref (RA 0)), (1, .int a1), (3, .int a3)]) rfl ?_
    exact w_X6_pose_91 hJ  r2 R_u R_r O_v O_n O_s O_a N_f N_t N_w N_b E_p E_k E_f E_t E_w E_l E_b L_G L_l hF
  · replace hF := iq c5 hF
    refine jj_aload_n hJ dX6_pose_23 1 rfl rfl ?_
    refine jj_get hJ lay_X6 dX6_pose_24 0 6 rfl rfl (Nat.le_of_ble_eq_true rfl) kw_308 rfl ?_
    refine jj_getN hJ lay_X1 dX6_pose_27 9 0 rfl rfl (Nat.le_of_ble_eq_true rfl) kw_310 rfl ?_
    refine jj_iload_n hJ dX6_pose_30 4 rfl rfl ?_
    obtain ⟨j6, h7, hF⟩ := ob hF
    refine jj_aald hJ dX6_pose_31 10 2 rfl rfl rfl (ix_some h7).1 (congrArg (fun i => some (RA (i + 13))) (ix_some h7).2.1) ?_
    refine jj_iload_n hJ dX6_pose_32 2 rfl rfl ?_
    obtain ⟨x8, h9, hF⟩ := ob hF
    refine jj_iald hJ dX6_pose_33 (52 + j6) 0 (rw10_get _ (ix_some h7).2.2) rfl h9 ?_
    refine jj_iload hJ dX6_pose_34 0 rfl ?_
    refine jj_iadd hJ dX6_pose_36 ?_
    refine jj_if_le hJ 91 dX6_pose_37 rfl (fun c10 => ?_) (fun c10 => ?_)
    · replace hF := ip c10 hF
      refine jj_lv hJ [0, 1, 2, 4] (lv' := [(4, .int r2), (0, .ref (RA 0)), (1, .int a1), (3, .int a3)]) rfl ?_
      exact w_X6_pose_91 hJ  r2 R_u R_r O_v O_n O_s O_a N_f N_t N_w N_b E_p E_k E_f E_t E_w E_l E_b L_G L_l hF
    · replace hF := iq c10 hF
      refine jj_aload_n hJ dX6_pose_40 1 rfl rfl ?_
      refine jj_dup hJ dX6_pose_41 rfl ?_
      refine jj_get hJ lay_X6 dX6_pose_42 0 12 rfl rfl (Nat.le_of_ble_eq_true rfl) kw_398 rfl ?_
      refine jj_iconst hJ dX6_pose_45 ic_1 ?_
      refine jj_iadd hJ dX6_pose_46 ?_
      refine jj_puti hJ lay_X6 tyX6 tyX6_ok nmX6 dX6_pose_47 0 12 rfl rfl (Nat.le_of_ble_eq_true rfl) kw_398 rfl rfl (Nat.le_of_ble_eq_true rfl) (wn := (W_X6_pose cI cS cII RA R_u R_q (R_r + 1) O_v O_n O_s O_a N_k N_f N_t N_w N_l N_b E_p E_k E_f E_t E_w E_l E_b L_G L_l)) rfl ?_
      refine jj_aload_n hJ dX6_pose_50 1 rfl rfl ?_
      refine jj_get hJ lay_X6 dX6_pose_51 0 11 rfl rfl (Nat.le_of_ble_eq_true rfl) kw_413 rfl ?_
      refine jj_aload_n hJ dX6_pose_54 1 rfl rfl ?_
      refine jj_get hJ lay_X6 dX6_pose_55 0 1 rfl rfl (Nat.le_of_ble_eq_true rfl) kw_306 rfl ?_
      refine jj_aload_n hJ dX6_pose_58 1 rfl rfl ?_
      refine jj_get hJ lay_X6 dX6_pose_59 0 6 rfl rfl (Nat.le_of_ble_eq_true rfl) kw_308 rfl ?_
      refine jj_iload_n hJ dX6_pose_62 4 rfl rfl ?_
      refine jj_iload_n hJ dX6_pose_63 2 rfl rfl ?_
      obtain ⟨⟨g12, g13, g14⟩, h11, hF⟩ := ob hF
      refine jj_callN hJ (c_X2_trace l D cI cS cII (fun i => RA (i + 34)) (fun i => RA (i + 4)) (fun i => RA (i + 11)) O_v O_n O_s O_a N_k N_f N_t N_w N_l N_b L_G L_l a3 a1 h11) dX6_pose_64 kw_439 ⟨Nat.le_of_ble_eq_true rfl, Nat.le_of_ble_eq_true rfl, rfl, rfl⟩ kw_438 kw_440 kw_441 1 rfl rfl rfl rfl (Nat.le_of_ble_eq_true rfl) [1, 2, 3, 4, 5, 6, 7, 8, 9, 10, 52, 53, 54, 55, 56, 57, 58, 59, 60, 61] rfl rfl (wn := (W_X6_pose cI cS cII RA R_u R_q (R_r + 1) g12 g13 g14 O_a N_k N_f N_t N_w N_l N_b E_p E_k E_f E_t E_w E_l E_b L_G L_l)) (jNew_sel rfl [none, some 0, some 1, some 2, some 3, some 4, some 5, some 6, some 7, some 8, some 9, none, none, none, none, none, none, none, none, none, none, none, none, none, none, none, none, none, none, none, none, none, none, none, none, none, none, none, none, none, none, none, none, none, none, none, none, none, none, none, none, none, some 10, some 11, some 12, some 13, some 14, some 15, some 16, some 17, some 18, some 19] (by decide +kernel) rfl) ?_
      refine jj_aload_n hJ dX6_pose_67 1 rfl rfl ?_
      refine jj_get hJ lay_X6 dX6_pose_68 0 11 rfl rfl (Nat.le_of_ble_eq_true rfl) kw_413 rfl ?_
      refine jj_aload_n hJ dX6_pose_71 1 rfl rfl ?_
      refine jj_get hJ lay_X6 dX6_pose_72 0 6 rfl rfl (Nat.le_of_ble_eq_true rfl) kw_308 rfl ?_
      refine jj_getN hJ lay_X1 dX6_pose_75 9 0 rfl rfl (Nat.le_of_ble_eq_true rfl) kw_310 rfl ?_
      refine jj_iload_n hJ dX6_pose_78 4 rfl rfl ?_
      obtain ⟨j15, h16, hF⟩ := ob hF
      refine jj_aald hJ dX6_pose_79 10 2 rfl rfl rfl (ix_some h16).1 (congrArg (fun i => some (RA (i + 13))) (ix_some h16).2.1) ?_
      refine jj_iload_n hJ dX6_pose_80 2 rfl rfl ?_
      obtain ⟨x17, h18, hF⟩ := ob hF
      refine jj_iald hJ dX6_pose_81 (52 + j15) 0 (rw10_get _ (ix_some h16).2.2) rfl h18 ?_
      refine jj_iload hJ dX6_pose_82 0 rfl ?_
      refine jj_iadd hJ dX6_pose_84 ?_
      refine jj_putN hJ lay_X2 tyX2 tyX2_ok nmX2 dX6_pose_85 1 3 rfl rfl (Nat.le_of_ble_eq_true rfl) kw_416 rfl rfl (Nat.le_of_ble_eq_true rfl) (wn := (W_X6_pose cI cS cII RA R_u R_q (R_r + 1) g12 g13 g14 (x17 + r2) N_k N_f N_t N_w N_l N_b E_p E_k E_f E_t E_w E_l E_b L_G L_l)) rfl ?_
      refine jj_bipush hJ dX6_pose_88 bp_m2 ?_
      cases Option.some.inj hF
      exact jj_iret hJ dX6_pose_90
section
def W_X6_ask (cI cS cII : ClassId) (RA : Nat → Nat) (R_u : Int32) (R_q : Int32) (R_r : Int32) (O_v : Nat → Int32) (O_n : Nat → Int32) (O_s : Int32) (O_a : Int32) (N_k : Nat → Int32) (N_f : Nat → Int32) (N_t : Nat → Int32) (N_w : Nat → Int32) (N_l : Int32) (N_b : Int32) (E_p : Nat → Nat) (E_k : Nat → Nat → Int32) (E_f : Nat → Nat → Int32) (E_t : Nat → Nat → Int32) (E_w : Nat → Nat → Int32) (E_l : Nat → Int32) (E_b : Nat → Int32) (L_G : Nat → Nat → Int32) (L_l : Int32) : va_W := (([((RA 0), .inr (6, [.ref (RA 1), .ref (RA 4), .ref (RA 9), .int R_u, .ref (RA 10), .int R_q, .ref (RA 11), .ref (RA 23), .ref (RA 24), .ref (RA 28), .ref (RA 31), .ref (RA 34), .int R_r])), ((RA 34), .inr (2, [.ref (RA 35), .ref (RA 36), .int O_s, .int O_a])), ((RA 35), .inl (cI, 10, .inl O_v)), ((RA 36), .inl (cI, 10, .inl O_n)), ((RA 4), .inr (4, [.ref (RA 5), .ref (RA 6), .ref (RA 7), .ref (RA 8), .int N_l, .int N_b])), ((RA 5), .inl (cI, 10, .inl N_k)), ((RA 6), .inl (cI, 16, .inl N_f)), ((RA 7), .inl (cI, 16, .inl N_t)), ((RA 8), .inl (cI, 16, .inl N_w)), ((RA 11), .inr (1, [.ref (RA 12), .int L_l])), ((RA 12), .inl (cII, 10, .inr (.inr (.inr (.inr (fun i => some (RA (i + 13))))))))] ++ earW cI cS RA E_p E_k E_f E_t E_w E_l E_b) ++ rw10 cI (fun i => RA (i + 13)) L_G)
abbrev Rm_X6_ask : Room := { frames := 4, cells := 0, slots := 0, locals := 127 }
variable {l : Launch} {D : va_G} {cI cS cII : ClassId} {RA : Nat → Nat} {A : Nat → Prop} {J : jT}
variable {z_r : Int32} {z_R_u : Int32} {z_R_r : Int32} {z_O_v : Nat → Int32} {z_O_n : Nat → Int32} {z_O_s : Int32} {z_O_a : Int32} {z_N_f : Nat → Int32} {z_N_t : Nat → Int32} {z_N_w : Nat → Int32} {z_N_b : Int32} {z_E_p : Nat → Nat} {z_E_k : Nat → Nat → Int32} {z_E_f : Nat → Nat → Int32} {z_E_t : Nat → Nat → Int32} {z_E_w : Nat → Nat → Int32} {z_E_l : Nat → Int32} {z_E_b : Nat → Int32} {z_L_G : Nat → Nat → Int32} {z_L_l : Int32}
def p_X6_ask (R_u : Int32) (R_r : Int32) (O_v : Nat → Int32) (O_n : Nat → Int32) (O_s : Int32) (O_a : Int32) (N_k : Nat → Int32) (N_f : Nat → Int32) (N_t : Nat → Int32) (N_w : Nat → Int32) (N_l : Int32) (N_b : Int32) (E_p : Nat → Nat) (E_k : Nat → Nat → Int32) (E_f : Nat → Nat → Int32) (E_t : Nat → Nat → Int32) (E_w : Nat → Nat → Int32) (E_l : Nat → Int32) (E_b : Nat → Int32) (L_G : Nat → Nat → Int32) (L_l : Int32) (a1 : Int32) (a2 : Int32) (a3 : Int32) : Option (Int32 × Int32 × Int32 × (Nat → Int32) × (Nat → Int32) × Int32 × Int32 × (Nat → Int32) × (Nat → Int32) × (Nat → Int32) × Int32 × (Nat → Nat) × (Nat → Nat → Int32) × (Nat → Nat → Int32) × (Nat → Nat → Int32) × (Nat → Nat → Int32) × (Nat → Int32) × (Nat → Int32) × (Nat → Nat → Int32) × Int32) := (p_X6_areUnlike N_l a1 a3).bind fun r2 => if r2 = 0 then (some ((-1), R_u, R_r, O_v, O_n, O_s, O_a, N_f, N_t, N_w, N_b, E_p, E_k, E_f, E_t, E_w, E_l, E_b, L_G, L_l)) else ((p_X6_isK a2).bind fun r5 => if r5 = 0 then (some ((-1), R_u, R_r, O_v, O_n, O_s, O_a, N_f, N_t, N_w, N_b, E_p, E_k, E_f, E_t, E_w, E_l, E_b, L_G, L_l)) else ((p_X6_pose R_u R_r O_v O_n O_s O_a N_k N_f N_t N_w N_l N_b E_p E_k E_f E_t E_w E_l E_b L_G L_l a1 a2 a3).bind fun (r8, g9, g10, g11, g12, g13, g14, g15, g16, g17, g18, g19, g20, g21, g22, g23, g24, g25, g26, g27) => some (r8, g9, g10, g11, g12, g13, g14, g15, g16, g17, g18, g19, g20, g21, g22, g23, g24, g25, g26, g27)))
end
set_option maxRecDepth 100000 in
theorem c_X6_ask (l : Launch) (D : va_G) (cI cS cII : ClassId) (RA : Nat → Nat) (R_u : Int32) (R_q : Int32) (R_r : Int32) (O_v : Nat → Int32) (O_n : Nat → Int32) (O_s : Int32) (O_a : Int32) (N_k : Nat → Int32) (N_f : Nat → Int32) (N_t : Nat → Int32) (N_w : Nat → Int32) (N_l : Int32) (N_b : Int32) (E_p : Nat → Nat) (E_k : Nat → Nat → Int32) (E_f : Nat → Nat → Int32) (E_t : Nat → Nat → Int32) (E_w : Nat → Nat → Int32) (E_l : Nat → Int32) (E_b : Nat → Int32) (L_G : Nat → Nat → Int32) (L_l : Int32) (a1 : Int32) (a2 : Int32) (a3 : Int32) {z_r : Int32} {z_R_u : Int32} {z_R_r : Int32} {z_O_v : Nat → Int32} {z_O_n : Nat → Int32} {z_O_s : Int32} {z_O_a : Int32} {z_N_f : Nat → Int32} {z_N_t : Nat → Int32} {z_N_w : Nat → Int32} {z_N_b : Int32} {z_E_p : Nat → Nat} {z_E_k : Nat → Nat → Int32} {z_E_f : Nat → Nat → Int32} {z_E_t : Nat → Nat → Int32} {z_E_w : Nat → Nat → Int32} {z_E_l : Nat → Int32} {z_E_b : Nat → Int32} {z_L_G : Nat → Nat → Int32} {z_L_l : Int32} (hF : p_X6_ask R_u R_r O_v O_n O_s O_a N_k N_f N_t N_w N_l N_b E_p E_k E_f E_t E_w E_l E_b L_G L_l a1 a2 a3 = some (z_r, z_R_u, z_R_r, z_O_v, z_O_n, z_O_s, z_O_a, z_N_f, z_N_t, z_N_w, z_N_b, z_E_p, z_E_k, z_E_f, z_E_t, z_E_w, z_E_l, z_E_b, z_L_G, z_L_l)) : MJ l yX6_ask cX6_ask 4 (some .int) Rm_X6_ask D (tysU cI cS cII) [.ref (RA 0), .int a1, .int a2, .int a3] (W_X6_ask cI cS cII RA R_u R_q R_r O_v O_n O_s O_a N_k N_f N_t N_w N_l N_b E_p E_k E_f E_t E_w E_l E_b L_G L_l) (some z_r) (W_X6_ask cI cS cII RA z_R_u R_q z_R_r z_O_v z_O_n z_O_s z_O_a N_k z_N_f z_N_t z_N_w N_l z_N_b z_E_p z_E_k z_E_f z_E_t z_E_w z_E_l z_E_b z_L_G z_L_l) := by
  refine mj_of (own := RX6) (by decide) rfl (Nat.le_of_ble_eq_true rfl) (fun J hJ => ?_)
  show J (W_X6_ask cI cS cII RA R_u R_q R_r O_v O_n O_s O_a N_k N_f N_t N_w N_l N_b E_p E_k E_f E_t E_w E_l E_b L_G L_l) 0 [(0, .ref (RA 0)), (1, .int a1), (2, .int a2), (3, .int a3)] []
  unfold p_X6_ask at hF
  refine jj_aload_n hJ dX6_ask_0 0 rfl rfl ?_
  refine jj_iload_n hJ dX6_ask_1 1 rfl rfl ?_
  refine jj_iload_n hJ dX6_ask_2 3 rfl rfl ?_
  obtain ⟨r2, h1, hF⟩ := ob hF
  refine jj_callV0 hJ (c_X6_areUnlike l D cI cS cII RA R_u R_q R_r N_k N_f N_t N_w N_l N_b a1 a3 h1) dX6_ask_3 kw_356 ⟨Nat.le_of_ble_eq_true rfl, Nat.le_of_ble_eq_true rfl, rfl, rfl⟩ kw_355 kw_357 kw_358 0 rfl rfl rfl rfl (Nat.le_of_ble_eq_true rfl) [0, 4, 5, 6, 7, 8] rfl rfl ?_
  refine jj_if_eq hJ 16 dX6_ask_6 rfl (fun c3 => ?_) (fun c3 => ?_)
  · replace hF := ip c3 hF
    refine jj_iconst hJ dX6_ask_16 ic_m1 ?_
    cases Option.some.inj hF
    exact jj_iret hJ dX6_ask_17
  · replace hF := iq c3 hF
    refine jj_iload_n hJ dX6_ask_9 2 rfl rfl ?_
    obtain ⟨r5, h4, hF⟩ := ob hF
    refine jj_callS0 hJ (c_X6_isK l D cI cS cII   a2 h4) dX6_ask_10 kw_347 ⟨Nat.le_of_ble_eq_true rfl, Nat.le_of_ble_eq_true rfl, rfl, rfl⟩ kw_348 kw_349 rfl rfl (Nat.le_of_ble_eq_true rfl) [] rfl rfl ?_
    refine jj_if_ne hJ 18 dX6_ask_13 rfl (fun c6 => ?_) (fun c6 => ?_)
    · replace hF := iq c6 hF
      refine jj_aload_n hJ dX6_ask_18 0 rfl rfl ?_
      refine jj_iload_n hJ dX6_ask_19 1 rfl rfl ?_
      refine jj_iload_n hJ dX6_ask_20 2 rfl rfl ?_
      refine jj_iload_n hJ dX6_ask_21 3 rfl rfl ?_
      obtain ⟨⟨r8, g9, g10, g11, g12, g13, g14, g15, g16, g17, g18, g19, g20, g21, g22, g23, g24, g25, g26, g27⟩, h7, hF⟩ := ob hF
      refine jj_callV hJ (c_X6_pose l D cI cS cII RA R_u R_q R_r O_v O_n O_s O_a N_k N_f N_t N_w N_l N_b E_p E_k E_f E_t E_w E_l E_b L_G L_l a1 a2 a3 h7) dX6_ask_22 kw_447 ⟨Nat.le_of_ble_eq_true rfl, Nat.le_of_ble_eq_true rfl, rfl, rfl⟩ kw_446 kw_448 kw_449 0 rfl rfl rfl rfl (Nat.le_of_ble_eq_true rfl) [0, 1, 2, 3, 4, 5, 6, 7, 8, 9, 10, 11, 12, 13, 14, 15, 16, 17, 18, 19, 20, 21, 22, 23, 24, 25, 26, 27, 28, 29, 30, 31, 32, 33, 34, 35, 36, 37, 38, 39, 40, 41, 42, 43, 44, 45, 46, 47, 48, 49, 50, 51, 52, 53, 54, 55, 56, 57, 58, 59, 60, 61] rfl rfl (wn := (W_X6_ask cI cS cII RA g9 R_q g10 g11 g12 g13 g14 N_k g15 g16 g17 N_l g18 g19 g20 g21 g22 g23 g24 g25 g26 g27)) (jNew_sel rfl [some 0, some 1, some 2, some 3, some 4, some 5, some 6, some 7, some 8, some 9, some 10, some 11, some 12, some 13, some 14, some 15, some 16, some 17, some 18, some 19, some 20, some 21, some 22, some 23, some 24, some 25, some 26, some 27, some 28, some 29, some 30, some 31, some 32, some 33, some 34, some 35, some 36, some 37, some 38, some 39, some 40, some 41, some 42, some 43, some 44, some 45, some 46, some 47, some 48, some 49, some 50, some 51, some 52, some 53, some 54, some 55, some 56, some 57, some 58, some 59, some 60, some 61] (by decide +kernel) rfl) ?_
      cases Option.some.inj hF
      exact jj_iret hJ dX6_ask_25
    · replace hF := ip c6 hF
      refine jj_iconst hJ dX6_ask_16 ic_m1 ?_
      cases Option.some.inj hF
      exact jj_iret hJ dX6_ask_17
section
def W_X6_keep (cI cS cII : ClassId) (RA : Nat → Nat) (R_u : Int32) (R_q : Int32) (R_r : Int32) (N_k : Nat → Int32) (N_f : Nat → Int32) (N_t : Nat → Int32) (N_w : Nat → Int32) (N_l : Int32) (N_b : Int32) (K_k : Nat → Nat → Int32) (K_f : Nat → Nat → Int32) (K_t : Nat → Nat → Int32) (K_w : Nat → Nat → Int32) (K_l : Nat → Int32) (K_b : Nat → Int32) : va_W := ([((RA 0), .inr (6, [.ref (RA 1), .ref (RA 4), .ref (RA 9), .int R_u, .ref (RA 10), .int R_q, .ref (RA 11), .ref (RA 23), .ref (RA 24), .ref (RA 28), .ref (RA 31), .ref (RA 34), .int R_r])), ((RA 4), .inr (4, [.ref (RA 5), .ref (RA 6), .ref (RA 7), .ref (RA 8), .int N_l, .int N_b])), ((RA 5), .inl (cI, 10, .inl N_k)), ((RA 6), .inl (cI, 16, .inl N_f)), ((RA 7), .inl (cI, 16, .inl N_t)), ((RA 8), .inl (cI, 16, .inl N_w))] ++ keptW cI cS RA K_k K_f K_t K_w K_l K_b)
abbrev Rm_X6_keep : Room := { frames := 2, cells := 0, slots := 0, locals := 81 }
variable {l : Launch} {D : va_G} {cI cS cII : ClassId} {RA : Nat → Nat} {A : Nat → Prop} {J : jT}
variable {z_r : Int32} {z_R_q : Int32} {z_K_k : Nat → Nat → Int32} {z_K_f : Nat → Nat → Int32} {z_K_t : Nat → Nat → Int32} {z_K_w : Nat → Nat → Int32} {z_K_l : Nat → Int32} {z_K_b : Nat → Int32}
def p_X6_keep (R_q : Int32) (N_k : Nat → Int32) (N_f : Nat → Int32) (N_t : Nat → Int32) (N_w : Nat → Int32) (N_l : Int32) (N_b : Int32) (K_k : Nat → Nat → Int32) (K_f : Nat → Nat → Int32) (K_t : Nat → Nat → Int32) (K_w : Nat → Nat → Int32) (K_l : Nat → Int32) (K_b : Nat → Int32) : Option (Int32 × Int32 × (Nat → Nat → Int32) × (Nat → Nat → Int32) × (Nat → Nat → Int32) × (Nat → Nat → Int32) × (Nat → Int32) × (Nat → Int32)) := if R_q < 2 then ((ix 2 R_q).bind fun j2 => (p_X4_copy (K_k j2) (K_f j2) (K_t j2) (K_w j2) (K_l j2) (K_b j2) N_k N_f N_t N_w N_l N_b).bind fun (g5, g6, g7, g8, g9, g10) => some (R_q + 1, R_q + 1, va_up K_k j2 g5, va_up K_f j2 g6, va_up K_t j2 g7, va_up K_w j2 g8, va_up K_l j2 g9, va_up K_b j2 g10)) else (some ((-3), R_q, K_k, K_f, K_t, K_w, K_l, K_b))
end
set_option maxRecDepth 100000 in
theorem c_X6_keep (l : Launch) (D : va_G) (cI cS cII : ClassId) (RA : Nat → Nat) (R_u : Int32) (R_q : Int32) (R_r : Int32) (N_k : Nat → Int32) (N_f : Nat → Int32) (N_t : Nat → Int32) (N_w : Nat → Int32) (N_l : Int32) (N_b : Int32) (K_k : Nat → Nat → Int32) (K_f : Nat → Nat → Int32) (K_t : Nat → Nat → Int32) (K_w : Nat → Nat → Int32) (K_l : Nat → Int32) (K_b : Nat → Int32)  {z_r : Int32} {z_R_q : Int32} {z_K_k : Nat → Nat → Int32} {z_K_f : Nat → Nat → Int32} {z_K_t : Nat → Nat → Int32} {z_K_w : Nat → Nat → Int32} {z_K_l : Nat → Int32} {z_K_b : Nat → Int32} (hF : p_X6_keep R_q N_k N_f N_t N_w N_l N_b K_k K_f K_t K_w K_l K_b = some (z_r, z_R_q, z_K_k, z_K_f, z_K_t, z_K_w, z_K_l, z_K_b)) : MJ l yX6_keep cX6_keep 1 (some .int) Rm_X6_keep D (tysU cI cS cII) [.ref (RA 0)] (W_X6_keep cI cS cII RA R_u R_q R_r N_k N_f N_t N_w N_l N_b K_k K_f K_t K_w K_l K_b) (some z_r) (W_X6_keep cI cS cII RA R_u z_R_q R_r N_k N_f N_t N_w N_l N_b z_K_k z_K_f z_K_t z_K_w z_K_l z_K_b) := by
  refine mj_of (own := RX6) (by decide) rfl (Nat.le_of_ble_eq_true rfl) (fun J hJ => ?_)
  show J (W_X6_keep cI cS cII RA R_u R_q R_r N_k N_f N_t N_w N_l N_b K_k K_f K_t K_w K_l K_b) 0 [(0, .ref (RA 0))] []
  unfold p_X6_keep at hF
  refine jj_aload_n hJ dX6_keep_0 0 rfl rfl ?_
  refine jj_get hJ lay_X6 dX6_keep_1 0 5 rfl rfl (Nat.le_of_ble_eq_true rfl) kw_408 rfl ?_
  refine jj_iconst hJ dX6_keep_4 ic_2 ?_
  refine jj_icmp_lt hJ 11 dX6_keep_5 rfl (fun c1 => ?_) (fun c1 => ?_)
  · replace hF := ip c1 hF
    refine jj_aload_n hJ dX6_keep_11 0 rfl rfl ?_
    refine jj_get hJ lay_X6 dX6_keep_12 0 4 rfl rfl (Nat.le_of_ble_eq_true rfl) kw_450 rfl ?_
    refine jj_aload_n hJ dX6_keep_15 0 rfl rfl ?_
    refine jj_get hJ lay_X6 dX6_keep_16 0 5 rfl rfl (Nat.le_of_ble_eq_true rfl) kw_408 rfl ?_
    obtain ⟨j2, h3, hF⟩ := ob hF
    refine jj_aald hJ dX6_keep_19 6 1 rfl rfl rfl (ix_some h3).1 (congrArg (fun i => some (RA (i + 77))) (ix_some h3).2.1) ?_
    refine jj_aload_n hJ dX6_keep_20 0 rfl rfl ?_
    refine jj_get hJ lay_X6 dX6_keep_21 0 1 rfl rfl (Nat.le_of_ble_eq_true rfl) kw_306 rfl ?_
    obtain ⟨⟨g5, g6, g7, g8, g9, g10⟩, h4, hF⟩ := ob hF
    refine jj_callN hJ (c_X4_copy l D cI cS cII (fun c => RA (j2 + 2 * c + 77)) (fun i => RA (i + 4)) (K_k j2) (K_f j2) (K_t j2) (K_w j2) (K_l j2) (K_b j2) N_k N_f N_t N_w N_l N_b  h4) dX6_keep_24 kw_419 ⟨Nat.le_of_ble_eq_true rfl, Nat.le_of_ble_eq_true rfl, rfl, rfl⟩ kw_418 kw_420 kw_421 (7 + j2) (by have hk9 := (ix_some h3).2.2; revert hk9; generalize j2 = kk9; intro hk9; rcases lt2 hk9 with rfl | rfl <;> rfl) (ci := 4) (fs := [.ref (RA (j2 + 79)), .ref (RA (j2 + 81)), .ref (RA (j2 + 83)), .ref (RA (j2 + 85)), .int (K_l j2), .int (K_b j2)]) rfl rfl rfl (Nat.le_of_ble_eq_true rfl) [(7 + j2), (9 + j2), (11 + j2), (13 + j2), (15 + j2), 1, 2, 3, 4, 5] (by have hk9 := (ix_some h3).2.2; revert hk9; generalize j2 = kk9; intro hk9; rcases lt2 hk9 with rfl | rfl <;> rfl) (by have hk9 := (ix_some h3).2.2; revert hk9; generalize j2 = kk9; intro hk9; rcases lt2 hk9 with rfl | rfl <;> rfl) (wn := (W_X6_keep cI cS cII RA R_u R_q R_r N_k N_f N_t N_w N_l N_b (va_up K_k j2 g5) (va_up K_f j2 g6) (va_up K_t j2 g7) (va_up K_w j2 g8) (va_up K_l j2 g9) (va_up K_b j2 g10))) (by
      have hk9 := (ix_some h3).2.2
      revert hk9
      generalize j2 = kk9
      intro hk9
      rcases lt2 hk9 with rfl | rfl
      · exact jNew_sel rfl [none, some 5, some 6, some 7, some 8, some 9, none, some 0, none, some 1, none, some 2, none, some 3, none, some 4, none] (by decide +kernel) rfl
      · exact jNew_sel rfl [none, some 5, some 6, some 7, some 8, some 9, none, none, some 0, none, some 1, none, some 2, none, some 3, none, some 4] (by decide +kernel) rfl) ?_
    refine jj_aload_n hJ dX6_keep_27 0 rfl rfl ?_
    refine jj_dup hJ dX6_keep_28 rfl ?_
    refine jj_get hJ lay_X6 dX6_keep_29 0 5 rfl rfl (Nat.le_of_ble_eq_true rfl) kw_408 rfl ?_
    refine jj_iconst hJ dX6_keep_32 ic_1 ?_
    refine jj_iadd hJ dX6_keep_33 ?_
    refine jj_puti hJ lay_X6 tyX6 tyX6_ok nmX6 dX6_keep_34 0 5 rfl rfl (Nat.le_of_ble_eq_true rfl) kw_408 rfl rfl (Nat.le_of_ble_eq_true rfl) (wn := (W_X6_keep cI cS cII RA R_u (R_q + 1) R_r N_k N_f N_t N_w N_l N_b (va_up K_k j2 g5) (va_up K_f j2 g6) (va_up K_t j2 g7) (va_up K_w j2 g8) (va_up K_l j2 g9) (va_up K_b j2 g10))) rfl ?_
    refine jj_aload_n hJ dX6_keep_37 0 rfl rfl ?_
    refine jj_get hJ lay_X6 dX6_keep_38 0 5 rfl rfl (Nat.le_of_ble_eq_true rfl) kw_408 rfl ?_
    cases Option.some.inj hF
    exact jj_iret hJ dX6_keep_41
  · replace hF := iq c1 hF
    refine jj_bipush hJ dX6_keep_8 bp_m3 ?_
    cases Option.some.inj hF
    exact jj_iret hJ dX6_keep_10
section
def W_X6_back (cI cS cII : ClassId) (RA : Nat → Nat) (R_u : Int32) (R_q : Int32) (R_r : Int32) (N_k : Nat → Int32) (N_f : Nat → Int32) (N_t : Nat → Int32) (N_w : Nat → Int32) (N_l : Int32) (N_b : Int32) (K_k : Nat → Nat → Int32) (K_f : Nat → Nat → Int32) (K_t : Nat → Nat → Int32) (K_w : Nat → Nat → Int32) (K_l : Nat → Int32) (K_b : Nat → Int32) (L_G : Nat → Nat → Int32) (L_l : Int32) : va_W := (([((RA 0), .inr (6, [.ref (RA 1), .ref (RA 4), .ref (RA 9), .int R_u, .ref (RA 10), .int R_q, .ref (RA 11), .ref (RA 23), .ref (RA 24), .ref (RA 28), .ref (RA 31), .ref (RA 34), .int R_r])), ((RA 4), .inr (4, [.ref (RA 5), .ref (RA 6), .ref (RA 7), .ref (RA 8), .int N_l, .int N_b])), ((RA 5), .inl (cI, 10, .inl N_k)), ((RA 6), .inl (cI, 16, .inl N_f)), ((RA 7), .inl (cI, 16, .inl N_t)), ((RA 8), .inl (cI, 16, .inl N_w)), ((RA 11), .inr (1, [.ref (RA 12), .int L_l])), ((RA 12), .inl (cII, 10, .inr (.inr (.inr (.inr (fun i => some (RA (i + 13))))))))] ++ keptW cI cS RA K_k K_f K_t K_w K_l K_b) ++ rw10 cI (fun i => RA (i + 13)) L_G)
abbrev Rm_X6_back : Room := { frames := 4, cells := 0, slots := 0, locals := 102 }
variable {l : Launch} {D : va_G} {cI cS cII : ClassId} {RA : Nat → Nat} {A : Nat → Prop} {J : jT}
variable {z_r : Int32} {z_R_u : Int32} {z_R_q : Int32} {z_N_k : Nat → Int32} {z_N_f : Nat → Int32} {z_N_t : Nat → Int32} {z_N_w : Nat → Int32} {z_N_l : Int32} {z_N_b : Int32} {z_L_G : Nat → Nat → Int32} {z_L_l : Int32}
def p_X6_back (R_u : Int32) (R_q : Int32) (N_k : Nat → Int32) (N_f : Nat → Int32) (N_t : Nat → Int32) (N_w : Nat → Int32) (N_l : Int32) (N_b : Int32) (K_k : Nat → Nat → Int32) (K_f : Nat → Nat → Int32) (K_t : Nat → Nat → Int32) (K_w : Nat → Nat → Int32) (K_l : Nat → Int32) (K_b : Nat → Int32) (L_G : Nat → Nat → Int32) (L_l : Int32) : Option (Int32 × Int32 × Int32 × (Nat → Int32) × (Nat → Int32) × (Nat → Int32) × (Nat → Int32) × Int32 × Int32 × (Nat → Nat → Int32) × Int32) := if 0 < R_q then ((ix 2 (R_q - 1)).bind fun j2 => (p_X6_resume N_k N_f N_t N_w N_l N_b (K_k j2) (K_f j2) (K_t j2) (K_w j2) (K_l j2) (K_b j2) L_G L_l).bind fun (g5, g6, g7, g8, g9, g10, g11, g12) => some (R_q - 1, 0, R_q - 1, g5, g6, g7, g8, g9, g10, g11, g12)) else (some ((-2), R_u, R_q, N_k, N_f, N_t, N_w, N_l, N_b, L_G, L_l))
end
set_option maxRecDepth 100000 in
theorem c_X6_back (l : Launch) (D : va_G) (cI cS cII : ClassId) (RA : Nat → Nat) (R_u : Int32) (R_q : Int32) (R_r : Int32) (N_k : Nat → Int32) (N_f : Nat → Int32) (N_t : Nat → Int32) (N_w : Nat → Int32) (N_l : Int32) (N_b : Int32) (K_k : Nat → Nat → Int32) (K_f : Nat → Nat → Int32) (K_t : Nat → Nat → Int32) (K_w : Nat → Nat → Int32) (K_l : Nat → Int32) (K_b : Nat → Int32) (L_G : Nat → Nat → Int32) (L_l : Int32)  {z_r : Int32} {z_R_u : Int32} {z_R_q : Int32} {z_N_k : Nat → Int32} {z_N_f : Nat → Int32} {z_N_t : Nat → Int32} {z_N_w : Nat → Int32} {z_N_l : Int32} {z_N_b : Int32} {z_L_G : Nat → Nat → Int32} {z_L_l : Int32} (hF : p_X6_back R_u R_q N_k N_f N_t N_w N_l N_b K_k K_f K_t K_w K_l K_b L_G L_l = some (z_r, z_R_u, z_R_q, z_N_k, z_N_f, z_N_t, z_N_w, z_N_l, z_N_b, z_L_G, z_L_l)) : MJ l yX6_back cX6_back 1 (some .int) Rm_X6_back D (tysU cI cS cII) [.ref (RA 0)] (W_X6_back cI cS cII RA R_u R_q R_r N_k N_f N_t N_w N_l N_b K_k K_f K_t K_w K_l K_b L_G L_l) (some z_r) (W_X6_back cI cS cII RA z_R_u z_R_q R_r z_N_k z_N_f z_N_t z_N_w z_N_l z_N_b K_k K_f K_t K_w K_l K_b z_L_G z_L_l) := by
  refine mj_of (own := RX6) (by decide) rfl (Nat.le_of_ble_eq_true rfl) (fun J hJ => ?_)
  show J (W_X6_back cI cS cII RA R_u R_q R_r N_k N_f N_t N_w N_l N_b K_k K_f K_t K_w K_l K_b L_G L_l) 0 [(0, .ref (RA 0))] []
  unfold p_X6_back at hF
  refine jj_aload_n hJ dX6_back_0 0 rfl rfl ?_
  refine jj_get hJ lay_X6 dX6_back_1 0 5 rfl rfl (Nat.le_of_ble_eq_true rfl) kw_408 rfl ?_
  refine jj_if_gt hJ 10 dX6_back_4 rfl (fun c1 => ?_) (fun c1 => ?_)
  · replace hF := ip c1 hF
    refine jj_aload_n hJ dX6_back_10 0 rfl rfl ?_
    refine jj_dup hJ dX6_back_11 rfl ?_
    refine jj_get hJ lay_X6 dX6_back_12 0 5 rfl rfl (Nat.le_of_ble_eq_true rfl) kw_408 rfl ?_
    refine jj_iconst hJ dX6_back_15 ic_1 ?_
    refine jj_isub hJ dX6_back_16 ?_
    refine jj_puti hJ lay_X6 tyX6 tyX6_ok nmX6 dX6_back_17 0 5 rfl rfl (Nat.le_of_ble_eq_true rfl) kw_408 rfl rfl (Nat.le_of_ble_eq_true rfl) (wn := (W_X6_back cI cS cII RA R_u (R_q - 1) R_r N_k N_f N_t N_w N_l N_b K_k K_f K_t K_w K_l K_b L_G L_l)) rfl ?_
    refine jj_aload_n hJ dX6_back_20 0 rfl rfl ?_
    refine jj_aload_n hJ dX6_back_21 0 rfl rfl ?_
    refine jj_get hJ lay_X6 dX6_back_22 0 4 rfl rfl (Nat.le_of_ble_eq_true rfl) kw_450 rfl ?_
    refine jj_aload_n hJ dX6_back_25 0 rfl rfl ?_
    refine jj_get hJ lay_X6 dX6_back_26 0 5 rfl rfl (Nat.le_of_ble_eq_true rfl) kw_408 rfl ?_
    obtain ⟨j2, h3, hF⟩ := ob hF
    refine jj_aald hJ dX6_back_29 8 1 rfl rfl rfl (ix_some h3).1 (congrArg (fun i => some (RA (i + 77))) (ix_some h3).2.1) ?_
    obtain ⟨⟨g5, g6, g7, g8, g9, g10, g11, g12⟩, h4, hF⟩ := ob hF
    refine jj_callV hJ (c_X6_resume l D cI cS cII RA (fun c => RA (j2 + 2 * c + 77)) R_u (R_q - 1) R_r N_k N_f N_t N_w N_l N_b (K_k j2) (K_f j2) (K_t j2) (K_w j2) (K_l j2) (K_b j2) L_G L_l  h4) dX6_back_30 kw_435 ⟨Nat.le_of_ble_eq_true rfl, Nat.le_of_ble_eq_true rfl, rfl, rfl⟩ kw_434 kw_436 kw_437 0 rfl rfl rfl rfl (Nat.le_of_ble_eq_true rfl) [0, 1, 2, 3, 4, 5, (9 + j2), (11 + j2), (13 + j2), (15 + j2), (17 + j2), 6, 7, 19, 20, 21, 22, 23, 24, 25, 26, 27, 28] (by have hk9 := (ix_some h3).2.2; revert hk9; generalize j2 = kk9; intro hk9; rcases lt2 hk9 with rfl | rfl <;> rfl) (by have hk9 := (ix_some h3).2.2; revert hk9; generalize j2 = kk9; intro hk9; rcases lt2 hk9 with rfl | rfl <;> rfl) (wn := (W_X6_back cI cS cII RA R_u (R_q - 1) R_r g5 g6 g7 g8 g9 g10 K_k K_f K_t K_w K_l K_b g11 g12)) (by
      have hk9 := (ix_some h3).2.2
      revert hk9
      generalize j2 = kk9
      intro hk9
      rcases lt2 hk9 with rfl | rfl
      · exact jNew_sel rfl [some 0, some 1, some 2, some 3, some 4, some 5, some 11, some 12, none, some 6, none, some 7, none, some 8, none, some 9, none, some 10, none, some 13, some 14, some 15, some 16, some 17, some 18, some 19, some 20, some 21, some 22] (by decide +kernel) rfl
      · exact jNew_sel rfl [some 0, some 1, some 2, some 3, some 4, some 5, some 11, some 12, none, none, some 6, none, some 7, none, some 8, none, some 9, none, some 10, some 13, some 14, some 15, some 16, some 17, some 18, some 19, some 20, some 21, some 22] (by decide +kernel) rfl) ?_
    refine jj_aload_n hJ dX6_back_33 0 rfl rfl ?_
    refine jj_iconst hJ dX6_back_34 ic_0 ?_
    refine jj_puti hJ lay_X6 tyX6 tyX6_ok nmX6 dX6_back_35 0 3 rfl rfl (Nat.le_of_ble_eq_true rfl) kw_407 rfl rfl (Nat.le_of_ble_eq_true rfl) (wn := (W_X6_back cI cS cII RA 0 (R_q - 1) R_r g5 g6 g7 g8 g9 g10 K_k K_f K_t K_w K_l K_b g11 g12)) rfl ?_
    refine jj_aload_n hJ dX6_back_38 0 rfl rfl ?_
    refine jj_get hJ lay_X6 dX6_back_39 0 5 rfl rfl (Nat.le_of_ble_eq_true rfl) kw_408 rfl ?_
    cases Option.some.inj hF
    exact jj_iret hJ dX6_back_42
  · replace hF := iq c1 hF
    refine jj_bipush hJ dX6_back_7 bp_m2 ?_
    cases Option.some.inj hF
    exact jj_iret hJ dX6_back_9
section
def W_X6_layItem (cI cS cII : ClassId) (RA : Nat → Nat) (VA : Nat) (R_u : Int32) (R_q : Int32) (R_r : Int32) (V_x : Nat → Int32) (O_v : Nat → Int32) (O_n : Nat → Int32) (O_s : Int32) (O_a : Int32) (N_k : Nat → Int32) (N_f : Nat → Int32) (N_t : Nat → Int32) (N_w : Nat → Int32) (N_l : Int32) (N_b : Int32) (E_p : Nat → Nat) (E_k : Nat → Nat → Int32) (E_f : Nat → Nat → Int32) (E_t : Nat → Nat → Int32) (E_w : Nat → Nat → Int32) (E_l : Nat → Int32) (E_b : Nat → Int32) (L_G : Nat → Nat → Int32) (L_l : Int32) : va_W := (([((RA 0), .inr (6, [.ref (RA 1), .ref (RA 4), .ref (RA 9), .int R_u, .ref (RA 10), .int R_q, .ref (RA 11), .ref (RA 23), .ref (RA 24), .ref (RA 28), .ref (RA 31), .ref (RA 34), .int R_r])), (VA, .inl (cI, 3, .inl V_x)), ((RA 34), .inr (2, [.ref (RA 35), .ref (RA 36), .int O_s, .int O_a])), ((RA 35), .inl (cI, 10, .inl O_v)), ((RA 36), .inl (cI, 10, .inl O_n)), ((RA 4), .inr (4, [.ref (RA 5), .ref (RA 6), .ref (RA 7), .ref (RA 8), .int N_l, .int N_b])), ((RA 5), .inl (cI, 10, .inl N_k)), ((RA 6), .inl (cI, 16, .inl N_f)), ((RA 7), .inl (cI, 16, .inl N_t)), ((RA 8), .inl (cI, 16, .inl N_w)), ((RA 11), .inr (1, [.ref (RA 12), .int L_l])), ((RA 12), .inl (cII, 10, .inr (.inr (.inr (.inr (fun i => some (RA (i + 13))))))))] ++ earW cI cS RA E_p E_k E_f E_t E_w E_l E_b) ++ rw10 cI (fun i => RA (i + 13)) L_G)
abbrev Rm_X6_layItem : Room := { frames := 4, cells := 0, slots := 0, locals := 127 }
variable {l : Launch} {D : va_G} {cI cS cII : ClassId} {RA : Nat → Nat} {VA : Nat} {A : Nat → Prop} {J : jT}
variable {z_R_u : Int32} {z_R_r : Int32} {z_O_v : Nat → Int32} {z_O_n : Nat → Int32} {z_O_s : Int32} {z_O_a : Int32} {z_N_k : Nat → Int32} {z_N_f : Nat → Int32} {z_N_t : Nat → Int32} {z_N_w : Nat → Int32} {z_N_l : Int32} {z_N_b : Int32} {z_E_p : Nat → Nat} {z_E_k : Nat → Nat → Int32} {z_E_f : Nat → Nat → Int32} {z_E_t : Nat → Nat → Int32} {z_E_w : Nat → Nat → Int32} {z_E_l : Nat → Int32} {z_E_b : Nat → Int32} {z_L_G : Nat → Nat → Int32} {z_L_l : Int32}
def p_X6_layItem (R_u : Int32) (R_r : Int32) (V_x : Nat → Int32) (O_v : Nat → Int32) (O_n : Nat → Int32) (O_s : Int32) (O_a : Int32) (N_k : Nat → Int32) (N_f : Nat → Int32) (N_t : Nat → Int32) (N_w : Nat → Int32) (N_l : Int32) (N_b : Int32) (E_p : Nat → Nat) (E_k : Nat → Nat → Int32) (E_f : Nat → Nat → Int32) (E_t : Nat → Nat → Int32) (E_w : Nat → Nat → Int32) (E_l : Nat → Int32) (E_b : Nat → Int32) (L_G : Nat → Nat → Int32) (L_l : Int32) (a1 : Int32) : Option (Int32 × Int32 × (Nat → Int32) × (Nat → Int32) × Int32 × Int32 × (Nat → Int32) × (Nat → Int32) × (Nat → Int32) × (Nat → Int32) × Int32 × Int32 × (Nat → Nat) × (Nat → Nat → Int32) × (Nat → Nat → Int32) × (Nat → Nat → Int32) × (Nat → Nat → Int32) × (Nat → Int32) × (Nat → Int32) × (Nat → Nat → Int32) × Int32) := if a1 = 118 then ((rd V_x 3 0).bind fun x58 => (p_X4_addLevel N_k N_l x58).bind fun (g61, g62) => (p_X1_measure N_f N_t N_w g62 N_b L_G L_l).bind fun (g64, g65) => some (R_u, R_r, O_v, O_n, O_s, O_a, g61, N_f, N_t, N_w, g62, N_b, E_p, E_k, E_f, E_t, E_w, E_l, E_b, g64, g65)) else (if a1 = 99 then ((rd V_x 3 0).bind fun x31 => (rd V_x 3 1).bind fun x33 => (rd V_x 3 2).bind fun x35 => (p_X6_pose R_u R_r O_v O_n O_s O_a N_k N_f N_t N_w N_l N_b E_p E_k E_f E_t E_w E_l E_b L_G L_l x31 x33 x35).bind fun (r38, g39, g40, g41, g42, g43, g44, g45, g46, g47, g48, g49, g50, g51, g52, g53, g54, g55, g56, g57) => some (g39, g40, g41, g42, g43, g44, N_k, g45, g46, g47, N_l, g48, g49, g50, g51, g52, g53, g54, g55, g56, g57)) else (if a1 = 100 then ((rd V_x 3 0).bind fun x4 => (rd V_x 3 2).bind fun x6 => (rd V_x 3 1).bind fun x8 => (p_X6_pose R_u R_r O_v O_n O_s O_a N_k N_f N_t N_w N_l N_b E_p E_k E_f E_t E_w E_l E_b L_G L_l x4 (-x6) x8).bind fun (r11, g12, g13, g14, g15, g16, g17, g18, g19, g20, g21, g22, g23, g24, g25, g26, g27, g28, g29, g30) => some (g12, g13, g14, g15, g16, g17, N_k, g18, g19, g20, N_l, g21, g22, g23, g24, g25, g26, g27, g28, g29, g30)) else (some (R_u, R_r, O_v, O_n, O_s, O_a, N_k, N_f, N_t, N_w, N_l, N_b, E_p, E_k, E_f, E_t, E_w, E_l, E_b, L_G, L_l))))
end
set_option maxRecDepth 100000 in
theorem c_X6_layItem (l : Launch) (D : va_G) (cI cS cII : ClassId) (RA : Nat → Nat) (VA : Nat) (R_u : Int32) (R_q : Int32) (R_r : Int32) (V_x : Nat → Int32) (O_v : Nat → Int32) (O_n : Nat → Int32) (O_s : Int32) (O_a : Int32) (N_k : Nat → Int32) (N_f : Nat → Int32) (N_t : Nat → Int32) (N_w : Nat → Int32) (N_l : Int32) (N_b : Int32) (E_p : Nat → Nat) (E_k : Nat → Nat → Int32) (E_f : Nat → Nat → Int32) (E_t : Nat → Nat → Int32) (E_w : Nat → Nat → Int32) (E_l : Nat → Int32) (E_b : Nat → Int32) (L_G : Nat → Nat → Int32) (L_l : Int32) (a1 : Int32) {z_R_u : Int32} {z_R_r : Int32} {z_O_v : Nat → Int32} {z_O_n : Nat → Int32} {z_O_s : Int32} {z_O_a : Int32} {z_N_k : Nat → Int32} {z_N_f : Nat → Int32} {z_N_t : Nat → Int32} {z_N_w : Nat → Int32} {z_N_l : Int32} {z_N_b : Int32} {z_E_p : Nat → Nat} {z_E_k : Nat → Nat → Int32} {z_E_f : Nat → Nat → Int32} {z_E_t : Nat → Nat → Int32} {z_E_w : Nat → Nat → Int32} {z_E_l : Nat → Int32} {z_E_b : Nat → Int32} {z_L_G : Nat → Nat → Int32} {z_L_l : Int32} (hF : p_X6_layItem R_u R_r V_x O_v O_n O_s O_a N_k N_f N_t N_w N_l N_b E_p E_k E_f E_t E_w E_l E_b L_G L_l a1 = some (z_R_u, z_R_r, z_O_v, z_O_n, z_O_s, z_O_a, z_N_k, z_N_f, z_N_t, z_N_w, z_N_l, z_N_b, z_E_p, z_E_k, z_E_f, z_E_t, z_E_w, z_E_l, z_E_b, z_L_G, z_L_l)) : MJ l yX6_layItem cX6_layItem 3 none Rm_X6_layItem D (tysU cI cS cII) [.ref (RA 0), .int a1, .ref VA] (W_X6_layItem cI cS cII RA VA R_u R_q R_r V_x O_v O_n O_s O_a N_k N_f N_t N_w N_l N_b E_p E_k E_f E_t E_w E_l E_b L_G L_l) none (W_X6_layItem cI cS cII RA VA z_R_u R_q z_R_r V_x z_O_v z_O_n z_O_s z_O_a z_N_k z_N_f z_N_t z_N_w z_N_l z_N_b z_E_p z_E_k z_E_f z_E_t z_E_w z_E_l z_E_b z_L_G z_L_l) := by
  refine mj_of (own := RX6) (by decide) rfl (Nat.le_of_ble_eq_true rfl) (fun J hJ => ?_)
  show J (W_X6_layItem cI cS cII RA VA R_u R_q R_r V_x O_v O_n O_s O_a N_k N_f N_t N_w N_l N_b E_p E_k E_f E_t E_w E_l E_b L_G L_l) 0 [(0, .ref (RA 0)), (1, .int a1), (2, .ref VA)] []
  unfold p_X6_layItem at hF
  refine jj_iload_n hJ dX6_layItem_0 1 rfl rfl ?_
  refine jj_bipush hJ dX6_layItem_1 bp_118 ?_
  refine jj_icmp_ne hJ 30 dX6_layItem_3 rfl (fun c1 => ?_) (fun c1 => ?_)
  · replace hF := iq c1 hF
    refine jj_iload_n hJ dX6_layItem_30 1 rfl rfl ?_
    refine jj_bipush hJ dX6_layItem_31 bp_99 ?_
    refine jj_icmp_ne hJ 53 dX6_layItem_33 rfl (fun c2 => ?_) (fun c2 => ?_)
    · replace hF := iq c2 hF
      refine jj_iload_n hJ dX6_layItem_53 1 rfl rfl ?_
      refine jj_bipush hJ dX6_layItem_54 bp_100 ?_
      refine jj_icmp_ne hJ 74 dX6_layItem_56 rfl (fun c3 => ?_) (fun c3 => ?_)
      · replace hF := iq c3 hF
        cases Option.some.inj hF
        exact jj_vret hJ dX6_layItem_74
      · replace hF := ip c3 hF
        refine jj_aload_n hJ dX6_layItem_59 0 rfl rfl ?_
        refine jj_aload_n hJ dX6_layItem_60 2 rfl rfl ?_
        refine jj_iconst hJ dX6_layItem_61 ic_0 ?_
        obtain ⟨x4, h5, hF⟩ := ob hF
        refine jj_iald hJ dX6_layItem_62 1 0 rfl rfl h5 ?_
        refine jj_aload_n hJ dX6_layItem_63 2 rfl rfl ?_
        refine jj_iconst hJ dX6_layItem_64 ic_2 ?_
        obtain ⟨x6, h7, hF⟩ := ob hF
        refine jj_iald hJ dX6_layItem_65 1 0 rfl rfl h7 ?_
        refine jj_ineg hJ dX6_layItem_66 ?_
        refine jj_aload_n hJ dX6_layItem_67 2 rfl rfl ?_
        refine jj_iconst hJ dX6_layItem_68 ic_1 ?_
        obtain ⟨x8, h9, hF⟩ := ob hF
        refine jj_iald hJ dX6_layItem_69 1 0 rfl rfl h9 ?_
        obtain ⟨⟨r11, g12, g13, g14, g15, g16, g17, g18, g19, g20, g21, g22, g23, g24, g25, g26, g27, g28, g29, g30⟩, h10, hF⟩ := ob hF
        refine jj_callV hJ (c_X6_pose l D cI cS cII RA R_u R_q R_r O_v O_n O_s O_a N_k N_f N_t N_w N_l N_b E_p E_k E_f E_t E_w E_l E_b L_G L_l x4 (-x6) x8 h10) dX6_layItem_70 kw_447 ⟨Nat.le_of_ble_eq_true rfl, Nat.le_of_ble_eq_true rfl, rfl, rfl⟩ kw_446 kw_448 kw_449 0 rfl rfl rfl rfl (Nat.le_of_ble_eq_true rfl) [0, 2, 3, 4, 5, 6, 7, 8, 9, 10, 11, 12, 13, 14, 15, 16, 17, 18, 19, 20, 21, 22, 23, 24, 25, 26, 27, 28, 29, 30, 31, 32, 33, 34, 35, 36, 37, 38, 39, 40, 41, 42, 43, 44, 45, 46, 47, 48, 49, 50, 51, 52, 53, 54, 55, 56, 57, 58, 59, 60, 61, 62] rfl rfl (wn := (W_X6_layItem cI cS cII RA VA g12 R_q g13 V_x g14 g15 g16 g17 N_k g18 g19 g20 N_l g21 g22 g23 g24 g25 g26 g27 g28 g29 g30)) (jNew_sel rfl [some 0, none, some 1, some 2, some 3, some 4, some 5, some 6, some 7, some 8, some 9, some 10, some 11, some 12, some 13, some 14, some 15, some 16, some 17, some 18, some 19, some 20, some 21, some 22, some 23, some 24, some 25, some 26, some 27, some 28, some 29, some 30, some 31, some 32, some 33, some 34, some 35, some 36, some 37, some 38, some 39, some 40, some 41, some 42, some 43, some 44, some 45, some 46, some 47, some 48, some 49, some 50, some 51, some 52, some 53, some 54, some 55, some 56, some 57, some 58, some 59, some 60, some 61] (by decide +kernel) rfl) ?_
        refine jj_pop hJ dX6_layItem_73 rfl ?_
        cases Option.some.inj hF
        exact jj_vret hJ dX6_layItem_74
    · replace hF := ip c2 hF
      refine jj_aload_n hJ dX6_layItem_36 0 rfl rfl ?_
      refine jj_aload_n hJ dX6_layItem_37 2 rfl rfl ?_
      refine jj_iconst hJ dX6_layItem_38 ic_0 ?_
      obtain ⟨x31, h32, hF⟩ := ob hF
      refine jj_iald hJ dX6_layItem_39 1 0 rfl rfl h32 ?_
      refine jj_aload_n hJ dX6_layItem_40 2 rfl rfl ?_
      refine jj_iconst hJ dX6_layItem_41 ic_1 ?_
      obtain ⟨x33, h34, hF⟩ := ob hF
      refine jj_iald hJ dX6_layItem_42 1 0 rfl rfl h34 ?_
      refine jj_aload_n hJ dX6_layItem_43 2 rfl rfl ?_
      refine jj_iconst hJ dX6_layItem_44 ic_2 ?_
      obtain ⟨x35, h36, hF⟩ := ob hF
      refine jj_iald hJ dX6_layItem_45 1 0 rfl rfl h36 ?_
      obtain ⟨⟨r38, g39, g40, g41, g42, g43, g44, g45, g46, g47, g48, g49, g50, g51, g52, g53, g54, g55, g56, g57⟩, h37, hF⟩ := ob hF
      refine jj_callV hJ (c_X6_pose l D cI cS cII RA R_u R_q R_r O_v O_n O_s O_a N_k N_f N_t N_w N_l N_b E_p E_k E_f E_t E_w E_l E_b L_G L_l x31 x33 x35 h37) dX6_layItem_46 kw_447 ⟨Nat.le_of_ble_eq_true rfl, Nat.le_of_ble_eq_true rfl, rfl, rfl⟩ kw_446 kw_448 kw_449 0 rfl rfl rfl rfl (Nat.le_of_ble_eq_true rfl) [0, 2, 3, 4, 5, 6, 7, 8, 9, 10, 11, 12, 13, 14, 15, 16, 17, 18, 19, 20, 21, 22, 23, 24, 25, 26, 27, 28, 29, 30, 31, 32, 33, 34, 35, 36, 37, 38, 39, 40, 41, 42, 43, 44, 45, 46, 47, 48, 49, 50, 51, 52, 53, 54, 55, 56, 57, 58, 59, 60, 61, 62] rfl rfl (wn := (W_X6_layItem cI cS cII RA VA g39 R_q g40 V_x g41 g42 g43 g44 N_k g45 g46 g47 N_l g48 g49 g50 g51 g52 g53 g54 g55 g56 g57)) (jNew_sel rfl [some 0, none, some 1, some 2, some 3, some 4, some 5, some 6, some 7, some 8, some 9, some 10, some 11, some 12, some 13, some 14, some 15, some 16, some 17, some 18, some 19, some 20, some 21, some 22, some 23, some 24, some 25, some 26, some 27, some 28, some 29, some 30, some 31, some 32, some 33, some 34, some 35, some 36, some 37, some 38, some 39, some 40, some 41, some 42, some 43, some 44, some 45, some 46, some 47, some 48, some 49, some 50, some 51, some 52, some 53, some 54, some 55, some 56, some 57, some 58, some 59, some 60, some 61] (by decide +kernel) rfl) ?_
      refine jj_pop hJ dX6_layItem_49 rfl ?_
      refine jj_goto hJ 74 dX6_layItem_50 rfl ?_
      cases Option.some.inj hF
      exact jj_vret hJ dX6_layItem_74
  · replace hF := ip c1 hF
    refine jj_aload_n hJ dX6_layItem_6 0 rfl rfl ?_
    refine jj_get hJ lay_X6 dX6_layItem_7 0 1 rfl rfl (Nat.le_of_ble_eq_true rfl) kw_306 rfl ?_
    refine jj_aload_n hJ dX6_layItem_10 2 rfl rfl ?_
    refine jj_iconst hJ dX6_layItem_11 ic_0 ?_
    obtain ⟨x58, h59, hF⟩ := ob hF
    refine jj_iald hJ dX6_layItem_12 1 0 rfl rfl h59 ?_
    obtain ⟨⟨g61, g62⟩, h60, hF⟩ := ob hF
    refine jj_callN hJ (c_X4_addLevel l D cI cS cII (fun i => RA (i + 4)) N_k N_f N_t N_w N_l N_b x58 h60) dX6_layItem_13 kw_452 ⟨Nat.le_of_ble_eq_true rfl, Nat.le_of_ble_eq_true rfl, rfl, rfl⟩ kw_451 kw_453 kw_454 5 rfl rfl rfl rfl (Nat.le_of_ble_eq_true rfl) [5, 6, 7, 8, 9] rfl rfl (wn := (W_X6_layItem cI cS cII RA VA R_u R_q R_r V_x O_v O_n O_s O_a g61 N_f N_t N_w g62 N_b E_p E_k E_f E_t E_w E_l E_b L_G L_l)) (jNew_sel rfl [none, none, none, none, none, some 0, some 1, some 2, some 3, some 4, none, none, none, none, none, none, none, none, none, none, none, none, none, none, none, none, none, none, none, none, none, none, none, none, none, none, none, none, none, none, none, none, none, none, none, none, none, none, none, none, none, none, none, none, none, none, none, none, none, none, none, none, none] (by decide +kernel) rfl) ?_
    refine jj_aload_n hJ dX6_layItem_16 0 rfl rfl ?_
    refine jj_get hJ lay_X6 dX6_layItem_17 0 6 rfl rfl (Nat.le_of_ble_eq_true rfl) kw_308 rfl ?_
    refine jj_aload_n hJ dX6_layItem_20 0 rfl rfl ?_
    refine jj_get hJ lay_X6 dX6_layItem_21 0 1 rfl rfl (Nat.le_of_ble_eq_true rfl) kw_306 rfl ?_
    obtain ⟨⟨g64, g65⟩, h63, hF⟩ := ob hF
    refine jj_callN hJ (c_X1_measure l D cI cS cII (fun i => RA (i + 4)) (fun i => RA (i + 11)) g61 N_f N_t N_w g62 N_b L_G L_l  h63) dX6_layItem_24 kw_431 ⟨Nat.le_of_ble_eq_true rfl, Nat.le_of_ble_eq_true rfl, rfl, rfl⟩ kw_430 kw_432 kw_433 10 rfl rfl rfl rfl (Nat.le_of_ble_eq_true rfl) [5, 6, 7, 8, 9, 10, 11, 53, 54, 55, 56, 57, 58, 59, 60, 61, 62] rfl rfl (wn := (W_X6_layItem cI cS cII RA VA R_u R_q R_r V_x O_v O_n O_s O_a g61 N_f N_t N_w g62 N_b E_p E_k E_f E_t E_w E_l E_b g64 g65)) (jNew_sel rfl [none, none, none, none, none, some 0, some 1, some 2, some 3, some 4, some 5, some 6, none, none, none, none, none, none, none, none, none, none, none, none, none, none, none, none, none, none, none, none, none, none, none, none, none, none, none, none, none, none, none, none, none, none, none, none, none, none, none, none, none, some 7, some 8, some 9, some 10, some 11, some 12, some 13, some 14, some 15, some 16] (by decide +kernel) rfl) ?_
    refine jj_goto hJ 74 dX6_layItem_27 rfl ?_
    cases Option.some.inj hF
    exact jj_vret hJ dX6_layItem_74
section
def W_X6_layText (cI cS cII : ClassId) (RA : Nat → Nat) (R_u : Int32) (R_q : Int32) (R_r : Int32) (X_c : Nat → Int32) (X_d : Nat → Int32) (X_n : Int32) (M_v : Nat → Int32) (M_m : Nat → Int32) (M_s : Int32) (O_v : Nat → Int32) (O_n : Nat → Int32) (O_s : Int32) (O_a : Int32) (N_k : Nat → Int32) (N_f : Nat → Int32) (N_t : Nat → Int32) (N_w : Nat → Int32) (N_l : Int32) (N_b : Int32) (E_p : Nat → Nat) (E_k : Nat → Nat → Int32) (E_f : Nat → Nat → Int32) (E_t : Nat → Nat → Int32) (E_w : Nat → Nat → Int32) (E_l : Nat → Int32) (E_b : Nat → Int32) (L_G : Nat → Nat → Int32) (L_l : Int32) : va_W := (([((RA 0), .inr (6, [.ref (RA 1), .ref (RA 4), .ref (RA 9), .int R_u, .ref (RA 10), .int R_q, .ref (RA 11), .ref (RA 23), .ref (RA 24), .ref (RA 28), .ref (RA 31), .ref (RA 34), .int R_r])), ((RA 1), .inr (5, [.ref (RA 2), .ref (RA 3), .int X_n])), ((RA 2), .inl (cI, 200, .inl X_c)), ((RA 3), .inl (cI, 3, .inl X_d)), ((RA 28), .inr (3, [.ref (RA 29), .ref (RA 30), .int M_s])), ((RA 29), .inl (cI, 10, .inl M_v)), ((RA 30), .inl (cI, 10, .inl M_m)), ((RA 34), .inr (2, [.ref (RA 35), .ref (RA 36), .int O_s, .int O_a])), ((RA 35), .inl (cI, 10, .inl O_v)), ((RA 36), .inl (cI, 10, .inl O_n)), ((RA 4), .inr (4, [.ref (RA 5), .ref (RA 6), .ref (RA 7), .ref (RA 8), .int N_l, .int N_b])), ((RA 5), .inl (cI, 10, .inl N_k)), ((RA 6), .inl (cI, 16, .inl N_f)), ((RA 7), .inl (cI, 16, .inl N_t)), ((RA 8), .inl (cI, 16, .inl N_w)), ((RA 11), .inr (1, [.ref (RA 12), .int L_l])), ((RA 12), .inl (cII, 10, .inr (.inr (.inr (.inr (fun i => some (RA (i + 13))))))))] ++ earW cI cS RA E_p E_k E_f E_t E_w E_l E_b) ++ rw10 cI (fun i => RA (i + 13)) L_G)
abbrev Rm_X6_layText : Room := { frames := 5, cells := 0, slots := 0, locals := 149 }
variable {l : Launch} {D : va_G} {cI cS cII : ClassId} {RA : Nat → Nat} {A : Nat → Prop} {J : jT}
variable {z_R_u : Int32} {z_R_q : Int32} {z_R_r : Int32} {z_X_d : Nat → Int32} {z_M_s : Int32} {z_O_v : Nat → Int32} {z_O_n : Nat → Int32} {z_O_s : Int32} {z_O_a : Int32} {z_N_k : Nat → Int32} {z_N_f : Nat → Int32} {z_N_t : Nat → Int32} {z_N_w : Nat → Int32} {z_N_l : Int32} {z_N_b : Int32} {z_E_p : Nat → Nat} {z_E_k : Nat → Nat → Int32} {z_E_f : Nat → Nat → Int32} {z_E_t : Nat → Nat → Int32} {z_E_w : Nat → Nat → Int32} {z_E_l : Nat → Int32} {z_E_b : Nat → Int32} {z_L_G : Nat → Nat → Int32} {z_L_l : Int32}
def q_X6_layText_46 (X_c : Nat → Int32) (X_n : Int32)  : Nat → Int32 → Int32 → Int32 → Int32 → Int32 → (Nat → Int32) → Int32 → (Nat → Int32) → (Nat → Int32) → Int32 → Int32 → (Nat → Int32) → (Nat → Int32) → (Nat → Int32) → (Nat → Int32) → Int32 → Int32 → (Nat → Nat) → (Nat → Nat → Int32) → (Nat → Nat → Int32) → (Nat → Nat → Int32) → (Nat → Nat → Int32) → (Nat → Int32) → (Nat → Int32) → (Nat → Nat → Int32) → Int32 → Option (Int32 × Int32 × Int32 × (Nat → Int32) × Int32 × (Nat → Int32) × (Nat → Int32) × Int32 × Int32 × (Nat → Int32) × (Nat → Int32) × (Nat → Int32) × (Nat → Int32) × Int32 × Int32 × (Nat → Nat) × (Nat → Nat → Int32) × (Nat → Nat → Int32) × (Nat → Nat → Int32) × (Nat → Nat → Int32) × (Nat → Int32) × (Nat → Int32) × (Nat → Nat → Int32) × Int32)
  | 0, _, _, _, _, _, _, _, _, _, _, _, _, _, _, _, _, _, _, _, _, _, _, _, _, _, _ => none
  | n + 1, v2, v1, R_u, R_q, R_r, X_d, M_s, O_v, O_n, O_s, O_a, N_k, N_f, N_t, N_w, N_l, N_b, E_p, E_k, E_f, E_t, E_w, E_l, E_b, L_G, L_l => if 200 ≤ v2 then (some (0, R_q, R_r, X_d, M_s, O_v, O_n, O_s, O_a, N_k, N_f, N_t, N_w, N_l, N_b, E_p, E_k, E_f, E_t, E_w, E_l, E_b, L_G, L_l)) else (if v1 < 0 then (some (0, R_q, R_r, X_d, M_s, O_v, O_n, O_s, O_a, N_k, N_f, N_t, N_w, N_l, N_b, E_p, E_k, E_f, E_t, E_w, E_l, E_b, L_G, L_l)) else (if X_n ≤ v1 then (some (0, R_q, R_r, X_d, M_s, O_v, O_n, O_s, O_a, N_k, N_f, N_t, N_w, N_l, N_b, E_p, E_k, E_f, E_t, E_w, E_l, E_b, L_G, L_l)) else ((p_X5_letterAt X_c X_n v1).bind fun r5 => (p_X5_readItem X_c X_d X_n v1).bind fun (r7, g8) => (p_X6_layItem R_u R_r g8 O_v O_n O_s O_a N_k N_f N_t N_w N_l N_b E_p E_k E_f E_t E_w E_l E_b L_G L_l r5).bind fun (g10, g11, g12, g13, g14, g15, g16, g17, g18, g19, g20, g21, g22, g23, g24, g25, g26, g27, g28, g29, g30) => q_X6_layText_46 X_c X_n n (v2 + 1) r7 g10 R_q g11 g8 M_s g12 g13 g14 g15 g16 g17 g18 g19 g20 g21 g22 g23 g24 g25 g26 g27 g28 g29 g30)))
set_option maxRecDepth 100000 in
theorem w_X6_layText_46 {X_c : Nat → Int32} {X_n : Int32} {M_v : Nat → Int32} {M_m : Nat → Int32}   (hJ : jJ l cX6_layText 4 D (tysU cI cS cII) RX6 Rm_X6_layText none A none (W_X6_layText cI cS cII RA z_R_u z_R_q z_R_r X_c z_X_d X_n M_v M_m z_M_s z_O_v z_O_n z_O_s z_O_a z_N_k z_N_f z_N_t z_N_w z_N_l z_N_b z_E_p z_E_k z_E_f z_E_t z_E_w z_E_l z_E_b z_L_G z_L_l) J)  : ∀ (n : Nat) (v2 : Int32) (v1 : Int32) (R_u : Int32) (R_q : Int32) (R_r : Int32) (X_d : Nat → Int32) (M_s : Int32) (O_v : Nat → Int32) (O_n : Nat → Int32) (O_s : Int32) (O_a : Int32) (N_k : Nat → Int32) (N_f : Nat → Int32) (N_t : Nat → Int32) (N_w : Nat → Int32) (N_l : Int32) (N_b : Int32) (E_p : Nat → Nat) (E_k : Nat → Nat → Int32) (E_f : Nat → Nat → Int32) (E_t : Nat → Nat → Int32) (E_w : Nat → Nat → Int32) (E_l : Nat → Int32) (E_b : Nat → Int32) (L_G : Nat → Nat → Int32) (L_l : Int32), q_X6_layText_46 X_c X_n n v2 v1 R_u R_q R_r X_d M_s O_v O_n O_s O_a N_k N_f N_t N_w N_l N_b E_p E_k E_f E_t E_w E_l E_b L_G L_l = some (z_R_u, z_R_q, z_R_r, z_X_d, z_M_s, z_O_v, z_O_n, z_O_s, z_O_a, z_N_k, z_N_f, z_N_t, z_N_w, z_N_l, z_N_b, z_E_p, z_E_k, z_E_f, z_E_t, z_E_w, z_E_l, z_E_b, z_L_G, z_L_l) → J (W_X6_layText cI cS cII RA R_u R_q R_r X_c X_d X_n M_v M_m M_s O_v O_n O_s O_a N_k N_f N_t N_w N_l N_b E_p E_k E_f E_t E_w E_l E_b L_G L_l) 46 [(2, .int v2), (1, .int v1), (0, .ref (RA 0))] [] := by
  intro n
  induction n with
  | zero =>
    intro v2 v1 R_u R_q R_r X_d M_s O_v O_n O_s O_a N_k N_f N_t N_w N_l N_b E_p E_k E_f E_t E_w E_l E_b L_G L_l hF
    exact no_some (show (none : Option (Int32 × Int32 × Int32 × (Nat → Int32) × Int32 × (Nat → Int32) × (Nat → Int32) × Int32 × Int32 × (Nat → Int32) × (Nat → Int32) × (Nat → Int32) × (Nat → Int32) × Int32 × Int32 × (Nat → Nat) × (Nat → Nat → Int32) × (Nat → Nat → Int32) × (Nat → Nat → Int32) × (Nat → Nat → Int32) × (Nat → Int32) × (Nat → Int32) × (Nat → Nat → Int32) × Int32)) = some (z_R_u, z_R_q, z_R_r, z_X_d, z_M_s, z_O_v, z_O_n, z_O_s, z_O_a, z_N_k, z_N_f, z_N_t, z_N_w, z_N_l, z_N_b, z_E_p, z_E_k, z_E_f, z_E_t, z_E_w, z_E_l, z_E_b, z_L_G, z_L_l) from hF)
  | succ n ih =>
    intro v2 v1 R_u R_q R_r X_d M_s O_v O_n O_s O_a N_k N_f N_t N_w N_l N_b E_p E_k E_f E_t E_w E_l E_b L_G L_l hF
    rw [q_X6_layText_46.eq_2] at hF
    refine jj_iload_n hJ dX6_layText_46 0 rfl rfl ?_
    refine jj_sipush hJ dX6_layText_47 sp_200 ?_
    refine jj_icmp_ge hJ 104 dX6_layText_50 rfl (fun c1 => ?_) (fun c1 => ?_)
    · replace hF := ip c1 hF
      refine jj_aload_n hJ dX6_layText_104 2 rfl rfl ?_
      refine jj_iconst hJ dX6_layText_105 ic_0 ?_
      refine jj_puti hJ lay_X6 tyX6 tyX6_ok nmX6 dX6_layText_106 0 3 rfl rfl (Nat.le_of_ble_eq_true rfl) kw_407 rfl rfl (Nat.le_of_ble_eq_true rfl) (wn := (W_X6_layText cI cS cII RA 0 R_q R_r X_c X_d X_n M_v M_m M_s O_v O_n O_s O_a N_k N_f N_t N_w N_l N_b E_p E_k E_f E_t E_w E_l E_b L_G L_l)) rfl ?_
      cases Option.some.inj hF
      exact jj_vret hJ dX6_layText_109
    · replace hF := iq c1 hF
      refine jj_iload_n hJ dX6_layText_53 1 rfl rfl ?_
      refine jj_if_lt hJ 104 dX6_layText_54 rfl (fun c2 => ?_) (fun c2 => ?_)
      · replace hF := ip c2 hF
        refine jj_aload_n hJ dX6_layText_104 2 rfl rfl ?_
        refine jj_iconst hJ dX6_layText_105 ic_0 ?_
        refine jj_puti hJ lay_X6 tyX6 tyX6_ok nmX6 dX6_layText_106 0 3 rfl rfl (Nat.le_of_ble_eq_true rfl) kw_407 rfl rfl (Nat.le_of_ble_eq_true rfl) (wn := (W_X6_layText cI cS cII RA 0 R_q R_r X_c X_d X_n M_v M_m M_s O_v O_n O_s O_a N_k N_f N_t N_w N_l N_b E_p E_k E_f E_t E_w E_l E_b L_G L_l)) rfl ?_
        cases Option.some.inj hF
        exact jj_vret hJ dX6_layText_109
      · replace hF := iq c2 hF
        refine jj_iload_n hJ dX6_layText_57 1 rfl rfl ?_
        refine jj_aload_n hJ dX6_layText_58 2 rfl rfl ?_
        refine jj_get hJ lay_X6 dX6_layText_59 0 0 rfl rfl (Nat.le_of_ble_eq_true rfl) kw_296 rfl ?_
        refine jj_getN hJ lay_X5 dX6_layText_62 1 2 rfl rfl (Nat.le_of_ble_eq_true rfl) kw_301 rfl ?_
        refine jj_icmp_ge hJ 104 dX6_layText_65 rfl (fun c3 => ?_) (fun c3 => ?_)
        · replace hF := ip c3 hF
          refine jj_aload_n hJ dX6_layText_104 2 rfl rfl ?_
          refine jj_iconst hJ dX6_layText_105 ic_0 ?_
          refine jj_puti hJ lay_X6 tyX6 tyX6_ok nmX6 dX6_layText_106 0 3 rfl rfl (Nat.le_of_ble_eq_true rfl) kw_407 rfl rfl (Nat.le_of_ble_eq_true rfl) (wn := (W_X6_layText cI cS cII RA 0 R_q R_r X_c X_d X_n M_v M_m M_s O_v O_n O_s O_a N_k N_f N_t N_w N_l N_b E_p E_k E_f E_t E_w E_l E_b L_G L_l)) rfl ?_
          cases Option.some.inj hF
          exact jj_vret hJ dX6_layText_109
        · replace hF := iq c3 hF
          refine jj_aload_n hJ dX6_layText_68 2 rfl rfl ?_
          refine jj_get hJ lay_X6 dX6_layText_69 0 0 rfl rfl (Nat.le_of_ble_eq_true rfl) kw_296 rfl ?_
          refine jj_iload_n hJ dX6_layText_72 1 rfl rfl ?_
          obtain ⟨r5, h4, hF⟩ := ob hF
          refine jj_callN0 hJ (c_X5_letterAt l D cI cS cII (fun i => RA (i + 1)) X_c X_d X_n v1 h4) dX6_layText_73 kw_81 ⟨Nat.le_of_ble_eq_true rfl, Nat.le_of_ble_eq_true rfl, rfl, rfl⟩ kw_455 kw_82 kw_83 1 rfl rfl rfl rfl (Nat.le_of_ble_eq_true rfl) [1, 2, 3] rfl rfl ?_
          refine jj_istore_n hJ dX6_layText_76 rfl (Nat.le_of_ble_eq_true rfl) (lv' := [(3, .int r5), (2, .int v2), (1, .int v1), (0, .ref (RA 0))]) rfl ?_
          refine jj_aload_n hJ dX6_layText_77 3 rfl rfl ?_
          refine jj_get hJ lay_X6 dX6_layText_78 0 0 rfl rfl (Nat.le_of_ble_eq_true rfl) kw_296 rfl ?_
          refine jj_iload_n hJ dX6_layText_81 2 rfl rfl ?_
          obtain ⟨⟨r7, g8⟩, h6, hF⟩ := ob hF
          refine jj_callN hJ (c_X5_readItem l D cI cS cII (fun i => RA (i + 1)) X_c X_d X_n v1 h6) dX6_layText_82 kw_100 ⟨Nat.le_of_ble_eq_true rfl, Nat.le_of_ble_eq_true rfl, rfl, rfl⟩ kw_456 kw_101 kw_102 1 rfl rfl rfl rfl (Nat.le_of_ble_eq_true rfl) [1, 2, 3] rfl rfl (wn := (W_X6_layText cI cS cII RA R_u R_q R_r X_c g8 X_n M_v M_m M_s O_v O_n O_s O_a N_k N_f N_t N_w N_l N_b E_p E_k E_f E_t E_w E_l E_b L_G L_l)) (jNew_sel rfl [none, some 0, some 1, some 2, none, none, none, none, none, none, none, none, none, none, none, none, none, none, none, none, none, none, none, none, none, none, none, none, none, none, none, none, none, none, none, none, none, none, none, none, none, none, none, none, none, none, none, none, none, none, none, none, none, none, none, none, none, none, none, none, none, none, none, none, none, none, none, none] (by decide +kernel) rfl) ?_
          refine jj_istore_n hJ dX6_layText_85 rfl (Nat.le_of_ble_eq_true rfl) (lv' := [(1, .int r7), (3, .int r5), (2, .int v2), (0, .ref (RA 0))]) rfl ?_
          refine jj_aload_n hJ dX6_layText_86 3 rfl rfl ?_
          refine jj_iload_n hJ dX6_layText_87 1 rfl rfl ?_
          refine jj_aload_n hJ dX6_layText_88 3 rfl rfl ?_
          refine jj_get hJ lay_X6 dX6_layText_89 0 0 rfl rfl (Nat.le_of_ble_eq_true rfl) kw_296 rfl ?_
          refine jj_getN hJ lay_X5 dX6_layText_92 1 1 rfl rfl (Nat.le_of_ble_eq_true rfl) kw_457 rfl ?_
          obtain ⟨⟨g10, g11, g12, g13, g14, g15, g16, g17, g18, g19, g20, g21, g22, g23, g24, g25, g26, g27, g28, g29, g30⟩, h9, hF⟩ := ob hF
          refine jj_callV hJ (c_X6_layItem l D cI cS cII RA (RA 3) R_u R_q R_r g8 O_v O_n O_s O_a N_k N_f N_t N_w N_l N_b E_p E_k E_f E_t E_w E_l E_b L_G L_l r5 h9) dX6_layText_95 kw_459 ⟨Nat.le_of_ble_eq_true rfl, Nat.le_of_ble_eq_true rfl, rfl, rfl⟩ kw_458 kw_460 kw_461 0 rfl rfl rfl rfl (Nat.le_of_ble_eq_true rfl) [0, 3, 7, 8, 9, 10, 11, 12, 13, 14, 15, 16, 17, 18, 19, 20, 21, 22, 23, 24, 25, 26, 27, 28, 29, 30, 31, 32, 33, 34, 35, 36, 37, 38, 39, 40, 41, 42, 43, 44, 45, 46, 47, 48, 49, 50, 51, 52, 53, 54, 55, 56, 57, 58, 59, 60, 61, 62, 63, 64, 65, 66, 67] rfl rfl (wn := (W_X6_layText cI cS cII RA g10 R_q g11 X_c g8 X_n M_v M_m M_s g12 g13 g14 g15 g16 g17 g18 g19 g20 g21 g22 g23 g24 g25 g26 g27 g28 g29 g30)) (jNew_sel rfl [some 0, none, none, some 1, none, none, none, some 2, some 3, some 4, some 5, some 6, some 7, some 8, some 9, some 10, some 11, some 12, some 13, some 14, some 15, some 16, some 17, some 18, some 19, some 20, some 21, some 22, some 23, some 24, some 25, some 26, some 27, some 28, some 29, some 30, some 31, some 32, some 33, some 34, some 35, some 36, some 37, some 38, some 39, some 40, some 41, some 42, some 43, some 44, some 45, some 46, some 47, some 48, some 49, some 50, some 51, some 52, some 53, some 54, some 55, some 56, some 57, some 58, some 59, some 60, some 61, some 62] (by decide +kernel) rfl) ?_
          refine jj_iinc hJ dX6_layText_98 2 rfl (v := v2 + 1) (by rw [ic_1]) (Nat.le_of_ble_eq_true rfl) (lv' := [(2, .int (v2 + 1)), (1, .int r7), (3, .int r5), (0, .ref (RA 0))]) rfl ?_
          refine jj_goto hJ 46 dX6_layText_101 rfl ?_
          refine jj_lv hJ [0, 1, 3] (lv' := [(2, .int (v2 + 1)), (1, .int r7), (0, .ref (RA 0))]) rfl ?_
          exact ih (v2 + 1) r7 g10 R_q g11 g8 M_s g12 g13 g14 g15 g16 g17 g18 g19 g20 g21 g22 g23 g24 g25 g26 g27 g28 g29 g30 hF
def p_X6_layText (R_u : Int32) (R_q : Int32) (R_r : Int32) (X_c : Nat → Int32) (X_d : Nat → Int32) (X_n : Int32) (M_s : Int32) (O_v : Nat → Int32) (O_n : Nat → Int32) (O_s : Int32) (O_a : Int32) (N_k : Nat → Int32) (N_f : Nat → Int32) (N_t : Nat → Int32) (N_w : Nat → Int32) (N_l : Int32) (N_b : Int32) (E_p : Nat → Nat) (E_k : Nat → Nat → Int32) (E_f : Nat → Nat → Int32) (E_t : Nat → Nat → Int32) (E_w : Nat → Nat → Int32) (E_l : Nat → Int32) (E_b : Nat → Int32) (L_G : Nat → Nat → Int32) (L_l : Int32) : Option (Int32 × Int32 × Int32 × (Nat → Int32) × Int32 × (Nat → Int32) × (Nat → Int32) × Int32 × Int32 × (Nat → Int32) × (Nat → Int32) × (Nat → Int32) × (Nat → Int32) × Int32 × Int32 × (Nat → Nat) × (Nat → Nat → Int32) × (Nat → Nat → Int32) × (Nat → Nat → Int32) × (Nat → Nat → Int32) × (Nat → Int32) × (Nat → Int32) × (Nat → Nat → Int32) × Int32) := q_X6_layText_46 X_c X_n FU 0 0 R_u 0 0 X_d 0 O_v O_n 0 O_a N_k N_f N_t N_w 0 0 E_p E_k E_f E_t E_w E_l E_b L_G L_l
end
set_option maxRecDepth 100000 in
theorem c_X6_layText (l : Launch) (D : va_G) (cI cS cII : ClassId) (RA : Nat → Nat) (R_u : Int32) (R_q : Int32) (R_r : Int32) (X_c : Nat → Int32) (X_d : Nat → Int32) (X_n : Int32) (M_v : Nat → Int32) (M_m : Nat → Int32) (M_s : Int32) (O_v : Nat → Int32) (O_n : Nat → Int32) (O_s : Int32) (O_a : Int32) (N_k : Nat → Int32) (N_f : Nat → Int32) (N_t : Nat → Int32) (N_w : Nat → Int32) (N_l : Int32) (N_b : Int32) (E_p : Nat → Nat) (E_k : Nat → Nat → Int32) (E_f : Nat → Nat → Int32) (E_t : Nat → Nat → Int32) (E_w : Nat → Nat → Int32) (E_l : Nat → Int32) (E_b : Nat → Int32) (L_G : Nat → Nat → Int32) (L_l : Int32)  {z_R_u : Int32} {z_R_q : Int32} {z_R_r : Int32} {z_X_d : Nat → Int32} {z_M_s : Int32} {z_O_v : Nat → Int32} {z_O_n : Nat → Int32} {z_O_s : Int32} {z_O_a : Int32} {z_N_k : Nat → Int32} {z_N_f : Nat → Int32} {z_N_t : Nat → Int32} {z_N_w : Nat → Int32} {z_N_l : Int32} {z_N_b : Int32} {z_E_p : Nat → Nat} {z_E_k : Nat → Nat → Int32} {z_E_f : Nat → Nat → Int32} {z_E_t : Nat → Nat → Int32} {z_E_w : Nat → Nat → Int32} {z_E_l : Nat → Int32} {z_E_b : Nat → Int32} {z_L_G : Nat → Nat → Int32} {z_L_l : Int32} (hF : p_X6_layText R_u R_q R_r X_c X_d X_n M_s O_v O_n O_s O_a N_k N_f N_t N_w N_l N_b E_p E_k E_f E_t E_w E_l E_b L_G L_l = some (z_R_u, z_R_q, z_R_r, z_X_d, z_M_s, z_O_v, z_O_n, z_O_s, z_O_a, z_N_k, z_N_f, z_N_t, z_N_w, z_N_l, z_N_b, z_E_p, z_E_k, z_E_f, z_E_t, z_E_w, z_E_l, z_E_b, z_L_G, z_L_l)) : MJ l yX6_layText cX6_layText 4 none Rm_X6_layText D (tysU cI cS cII) [.ref (RA 0)] (W_X6_layText cI cS cII RA R_u R_q R_r X_c X_d X_n M_v M_m M_s O_v O_n O_s O_a N_k N_f N_t N_w N_l N_b E_p E_k E_f E_t E_w E_l E_b L_G L_l) none (W_X6_layText cI cS cII RA z_R_u z_R_q z_R_r X_c z_X_d X_n M_v M_m z_M_s z_O_v z_O_n z_O_s z_O_a z_N_k z_N_f z_N_t z_N_w z_N_l z_N_b z_E_p z_E_k z_E_f z_E_t z_E_w z_E_l z_E_b z_L_G z_L_l) := by
  refine mj_of (own := RX6) (by decide) rfl (Nat.le_of_ble_eq_true rfl) (fun J hJ => ?_)
  show J (W_X6_layText cI cS cII RA R_u R_q R_r X_c X_d X_n M_v M_m M_s O_v O_n O_s O_a N_k N_f N_t N_w N_l N_b E_p E_k E_f E_t E_w E_l E_b L_G L_l) 0 [(0, .ref (RA 0))] []
  unfold p_X6_layText at hF
  refine jj_aload_n hJ dX6_layText_0 0 rfl rfl ?_
  refine jj_get hJ lay_X6 dX6_layText_1 0 1 rfl rfl (Nat.le_of_ble_eq_true rfl) kw_306 rfl ?_
  refine jj_iconst hJ dX6_layText_4 ic_0 ?_
  refine jj_putN hJ lay_X4 tyX4 tyX4_ok nmX4 dX6_layText_5 10 4 rfl rfl (Nat.le_of_ble_eq_true rfl) kw_307 rfl rfl (Nat.le_of_ble_eq_true rfl) (wn := (W_X6_layText cI cS cII RA R_u R_q R_r X_c X_d X_n M_v M_m M_s O_v O_n O_s O_a N_k N_f N_t N_w 0 N_b E_p E_k E_f E_t E_w E_l E_b L_G L_l)) rfl ?_
  refine jj_aload_n hJ dX6_layText_8 0 rfl rfl ?_
  refine jj_get hJ lay_X6 dX6_layText_9 0 1 rfl rfl (Nat.le_of_ble_eq_true rfl) kw_306 rfl ?_
  refine jj_iconst hJ dX6_layText_12 ic_0 ?_
  refine jj_putN hJ lay_X4 tyX4 tyX4_ok nmX4 dX6_layText_13 10 5 rfl rfl (Nat.le_of_ble_eq_true rfl) kw_328 rfl rfl (Nat.le_of_ble_eq_true rfl) (wn := (W_X6_layText cI cS cII RA R_u R_q R_r X_c X_d X_n M_v M_m M_s O_v O_n O_s O_a N_k N_f N_t N_w 0 0 E_p E_k E_f E_t E_w E_l E_b L_G L_l)) rfl ?_
  refine jj_aload_n hJ dX6_layText_16 0 rfl rfl ?_
  refine jj_iconst hJ dX6_layText_17 ic_0 ?_
  refine jj_puti hJ lay_X6 tyX6 tyX6_ok nmX6 dX6_layText_18 0 5 rfl rfl (Nat.le_of_ble_eq_true rfl) kw_408 rfl rfl (Nat.le_of_ble_eq_true rfl) (wn := (W_X6_layText cI cS cII RA R_u 0 R_r X_c X_d X_n M_v M_m M_s O_v O_n O_s O_a N_k N_f N_t N_w 0 0 E_p E_k E_f E_t E_w E_l E_b L_G L_l)) rfl ?_
  refine jj_aload_n hJ dX6_layText_21 0 rfl rfl ?_
  refine jj_get hJ lay_X6 dX6_layText_22 0 9 rfl rfl (Nat.le_of_ble_eq_true rfl) kw_369 rfl ?_
  refine jj_iconst hJ dX6_layText_25 ic_0 ?_
  refine jj_putN hJ lay_X3 tyX3 tyX3_ok nmX3 dX6_layText_26 4 2 rfl rfl (Nat.le_of_ble_eq_true rfl) kw_370 rfl rfl (Nat.le_of_ble_eq_true rfl) (wn := (W_X6_layText cI cS cII RA R_u 0 R_r X_c X_d X_n M_v M_m 0 O_v O_n O_s O_a N_k N_f N_t N_w 0 0 E_p E_k E_f E_t E_w E_l E_b L_G L_l)) rfl ?_
  refine jj_aload_n hJ dX6_layText_29 0 rfl rfl ?_
  refine jj_get hJ lay_X6 dX6_layText_30 0 11 rfl rfl (Nat.le_of_ble_eq_true rfl) kw_413 rfl ?_
  refine jj_iconst hJ dX6_layText_33 ic_0 ?_
  refine jj_putN hJ lay_X2 tyX2 tyX2_ok nmX2 dX6_layText_34 7 2 rfl rfl (Nat.le_of_ble_eq_true rfl) kw_414 rfl rfl (Nat.le_of_ble_eq_true rfl) (wn := (W_X6_layText cI cS cII RA R_u 0 R_r X_c X_d X_n M_v M_m 0 O_v O_n 0 O_a N_k N_f N_t N_w 0 0 E_p E_k E_f E_t E_w E_l E_b L_G L_l)) rfl ?_
  refine jj_aload_n hJ dX6_layText_37 0 rfl rfl ?_
  refine jj_iconst hJ dX6_layText_38 ic_0 ?_
  refine jj_puti hJ lay_X6 tyX6 tyX6_ok nmX6 dX6_layText_39 0 12 rfl rfl (Nat.le_of_ble_eq_true rfl) kw_398 rfl rfl (Nat.le_of_ble_eq_true rfl) (wn := (W_X6_layText cI cS cII RA R_u 0 0 X_c X_d X_n M_v M_m 0 O_v O_n 0 O_a N_k N_f N_t N_w 0 0 E_p E_k E_f E_t E_w E_l E_b L_G L_l)) rfl ?_
  refine jj_iconst hJ dX6_layText_42 ic_0 ?_
  refine jj_istore_n hJ dX6_layText_43 rfl (Nat.le_of_ble_eq_true rfl) (lv' := [(1, .int 0), (0, .ref (RA 0))]) rfl ?_
  refine jj_iconst hJ dX6_layText_44 ic_0 ?_
  refine jj_istore_n hJ dX6_layText_45 rfl (Nat.le_of_ble_eq_true rfl) (lv' := [(2, .int 0), (1, .int 0), (0, .ref (RA 0))]) rfl ?_
  exact w_X6_layText_46 hJ  FU 0 0 R_u 0 0 X_d 0 O_v O_n 0 O_a N_k N_f N_t N_w 0 0 E_p E_k E_f E_t E_w E_l E_b L_G L_l hF
section
def W_X6_lay (cI cS cII : ClassId) (RA : Nat → Nat) (R_u : Int32) (R_q : Int32) (R_r : Int32) (X_c : Nat → Int32) (X_d : Nat → Int32) (X_n : Int32) (M_v : Nat → Int32) (M_m : Nat → Int32) (M_s : Int32) (O_v : Nat → Int32) (O_n : Nat → Int32) (O_s : Int32) (O_a : Int32) (N_k : Nat → Int32) (N_f : Nat → Int32) (N_t : Nat → Int32) (N_w : Nat → Int32) (N_l : Int32) (N_b : Int32) (E_p : Nat → Nat) (E_k : Nat → Nat → Int32) (E_f : Nat → Nat → Int32) (E_t : Nat → Nat → Int32) (E_w : Nat → Nat → Int32) (E_l : Nat → Int32) (E_b : Nat → Int32) (L_G : Nat → Nat → Int32) (L_l : Int32) : va_W := (([((RA 0), .inr (6, [.ref (RA 1), .ref (RA 4), .ref (RA 9), .int R_u, .ref (RA 10), .int R_q, .ref (RA 11), .ref (RA 23), .ref (RA 24), .ref (RA 28), .ref (RA 31), .ref (RA 34), .int R_r])), ((RA 1), .inr (5, [.ref (RA 2), .ref (RA 3), .int X_n])), ((RA 2), .inl (cI, 200, .inl X_c)), ((RA 3), .inl (cI, 3, .inl X_d)), ((RA 28), .inr (3, [.ref (RA 29), .ref (RA 30), .int M_s])), ((RA 29), .inl (cI, 10, .inl M_v)), ((RA 30), .inl (cI, 10, .inl M_m)), ((RA 34), .inr (2, [.ref (RA 35), .ref (RA 36), .int O_s, .int O_a])), ((RA 35), .inl (cI, 10, .inl O_v)), ((RA 36), .inl (cI, 10, .inl O_n)), ((RA 4), .inr (4, [.ref (RA 5), .ref (RA 6), .ref (RA 7), .ref (RA 8), .int N_l, .int N_b])), ((RA 5), .inl (cI, 10, .inl N_k)), ((RA 6), .inl (cI, 16, .inl N_f)), ((RA 7), .inl (cI, 16, .inl N_t)), ((RA 8), .inl (cI, 16, .inl N_w)), ((RA 11), .inr (1, [.ref (RA 12), .int L_l])), ((RA 12), .inl (cII, 10, .inr (.inr (.inr (.inr (fun i => some (RA (i + 13))))))))] ++ earW cI cS RA E_p E_k E_f E_t E_w E_l E_b) ++ rw10 cI (fun i => RA (i + 13)) L_G)
abbrev Rm_X6_lay : Room := { frames := 6, cells := 0, slots := 0, locals := 172 }
variable {l : Launch} {D : va_G} {cI cS cII : ClassId} {RA : Nat → Nat} {A : Nat → Prop} {J : jT}
variable {z_r : Int32} {z_R_u : Int32} {z_R_q : Int32} {z_R_r : Int32} {z_X_d : Nat → Int32} {z_M_s : Int32} {z_O_v : Nat → Int32} {z_O_n : Nat → Int32} {z_O_s : Int32} {z_O_a : Int32} {z_N_k : Nat → Int32} {z_N_f : Nat → Int32} {z_N_t : Nat → Int32} {z_N_w : Nat → Int32} {z_N_l : Int32} {z_N_b : Int32} {z_E_p : Nat → Nat} {z_E_k : Nat → Nat → Int32} {z_E_f : Nat → Nat → Int32} {z_E_t : Nat → Nat → Int32} {z_E_w : Nat → Nat → Int32} {z_E_l : Nat → Int32} {z_E_b : Nat → Int32} {z_L_G : Nat → Nat → Int32} {z_L_l : Int32}
def p_X6_lay (R_u : Int32) (R_q : Int32) (R_r : Int32) (X_c : Nat → Int32) (X_d : Nat → Int32) (X_n : Int32) (M_s : Int32) (O_v : Nat → Int32) (O_n : Nat → Int32) (O_s : Int32) (O_a : Int32) (N_k : Nat → Int32) (N_f : Nat → Int32) (N_t : Nat → Int32) (N_w : Nat → Int32) (N_l : Int32) (N_b : Int32) (E_p : Nat → Nat) (E_k : Nat → Nat → Int32) (E_f : Nat → Nat → Int32) (E_t : Nat → Nat → Int32) (E_w : Nat → Nat → Int32) (E_l : Nat → Int32) (E_b : Nat → Int32) (L_G : Nat → Nat → Int32) (L_l : Int32) : Option (Int32 × Int32 × Int32 × Int32 × (Nat → Int32) × Int32 × (Nat → Int32) × (Nat → Int32) × Int32 × Int32 × (Nat → Int32) × (Nat → Int32) × (Nat → Int32) × (Nat → Int32) × Int32 × Int32 × (Nat → Nat) × (Nat → Nat → Int32) × (Nat → Nat → Int32) × (Nat → Nat → Int32) × (Nat → Nat → Int32) × (Nat → Int32) × (Nat → Int32) × (Nat → Nat → Int32) × Int32) := if X_n = 0 then (some ((-2), R_u, R_q, R_r, X_d, M_s, O_v, O_n, O_s, O_a, N_k, N_f, N_t, N_w, N_l, N_b, E_p, E_k, E_f, E_t, E_w, E_l, E_b, L_G, L_l)) else ((p_X5_firstFault X_c X_d X_n).bind fun (r3, g4) => if r3 = ((-4)) then ((p_X6_layText R_u R_q R_r X_c g4 X_n M_s O_v O_n O_s O_a N_k N_f N_t N_w N_l N_b E_p E_k E_f E_t E_w E_l E_b L_G L_l).bind fun (g7, g8, g9, g10, g11, g12, g13, g14, g15, g16, g17, g18, g19, g20, g21, g22, g23, g24, g25, g26, g27, g28, g29, g30) => some (g21, g7, g8, g9, g10, g11, g12, g13, g14, g15, g16, g17, g18, g19, g20, g21, g22, g23, g24, g25, g26, g27, g28, g29, g30)) else (some ((-2), R_u, R_q, R_r, g4, M_s, O_v, O_n, O_s, O_a, N_k, N_f, N_t, N_w, N_l, N_b, E_p, E_k, E_f, E_t, E_w, E_l, E_b, L_G, L_l)))
end
set_option maxRecDepth 100000 in
theorem c_X6_lay (l : Launch) (D : va_G) (cI cS cII : ClassId) (RA : Nat → Nat) (R_u : Int32) (R_q : Int32) (R_r : Int32) (X_c : Nat → Int32) (X_d : Nat → Int32) (X_n : Int32) (M_v : Nat → Int32) (M_m : Nat → Int32) (M_s : Int32) (O_v : Nat → Int32) (O_n : Nat → Int32) (O_s : Int32) (O_a : Int32) (N_k : Nat → Int32) (N_f : Nat → Int32) (N_t : Nat → Int32) (N_w : Nat → Int32) (N_l : Int32) (N_b : Int32) (E_p : Nat → Nat) (E_k : Nat → Nat → Int32) (E_f : Nat → Nat → Int32) (E_t : Nat → Nat → Int32) (E_w : Nat → Nat → Int32) (E_l : Nat → Int32) (E_b : Nat → Int32) (L_G : Nat → Nat → Int32) (L_l : Int32)  {z_r : Int32} {z_R_u : Int32} {z_R_q : Int32} {z_R_r : Int32} {z_X_d : Nat → Int32} {z_M_s : Int32} {z_O_v : Nat → Int32} {z_O_n : Nat → Int32} {z_O_s : Int32} {z_O_a : Int32} {z_N_k : Nat → Int32} {z_N_f : Nat → Int32} {z_N_t : Nat → Int32} {z_N_w : Nat → Int32} {z_N_l : Int32} {z_N_b : Int32} {z_E_p : Nat → Nat} {z_E_k : Nat → Nat → Int32} {z_E_f : Nat → Nat → Int32} {z_E_t : Nat → Nat → Int32} {z_E_w : Nat → Nat → Int32} {z_E_l : Nat → Int32} {z_E_b : Nat → Int32} {z_L_G : Nat → Nat → Int32} {z_L_l : Int32} (hF : p_X6_lay R_u R_q R_r X_c X_d X_n M_s O_v O_n O_s O_a N_k N_f N_t N_w N_l N_b E_p E_k E_f E_t E_w E_l E_b L_G L_l = some (z_r, z_R_u, z_R_q, z_R_r, z_X_d, z_M_s, z_O_v, z_O_n, z_O_s, z_O_a, z_N_k, z_N_f, z_N_t, z_N_w, z_N_l, z_N_b, z_E_p, z_E_k, z_E_f, z_E_t, z_E_w, z_E_l, z_E_b, z_L_G, z_L_l)) : MJ l yX6_lay cX6_lay 1 (some .int) Rm_X6_lay D (tysU cI cS cII) [.ref (RA 0)] (W_X6_lay cI cS cII RA R_u R_q R_r X_c X_d X_n M_v M_m M_s O_v O_n O_s O_a N_k N_f N_t N_w N_l N_b E_p E_k E_f E_t E_w E_l E_b L_G L_l) (some z_r) (W_X6_lay cI cS cII RA z_R_u z_R_q z_R_r X_c z_X_d X_n M_v M_m z_M_s z_O_v z_O_n z_O_s z_O_a z_N_k z_N_f z_N_t z_N_w z_N_l z_N_b z_E_p z_E_k z_E_f z_E_t z_E_w z_E_l z_E_b z_L_G z_L_l) := by
  refine mj_of (own := RX6) (by decide) rfl (Nat.le_of_ble_eq_true rfl) (fun J hJ => ?_)
  show J (W_X6_lay cI cS cII RA R_u R_q R_r X_c X_d X_n M_v M_m M_s O_v O_n O_s O_a N_k N_f N_t N_w N_l N_b E_p E_k E_f E_t E_w E_l E_b L_G L_l) 0 [(0, .ref (RA 0))] []
  unfold p_X6_lay at hF
  refine jj_aload_n hJ dX6_lay_0 0 rfl rfl ?_
  refine jj_get hJ lay_X6 dX6_lay_1 0 0 rfl rfl (Nat.le_of_ble_eq_true rfl) kw_296 rfl ?_
  refine jj_getN hJ lay_X5 dX6_lay_4 1 2 rfl rfl (Nat.le_of_ble_eq_true rfl) kw_301 rfl ?_
  refine jj_if_eq hJ 22 dX6_lay_7 rfl (fun c1 => ?_) (fun c1 => ?_)
  · replace hF := ip c1 hF
    refine jj_bipush hJ dX6_lay_22 bp_m2 ?_
    cases Option.some.inj hF
    exact jj_iret hJ dX6_lay_24
  · replace hF := iq c1 hF
    refine jj_aload_n hJ dX6_lay_10 0 rfl rfl ?_
    refine jj_get hJ lay_X6 dX6_lay_11 0 0 rfl rfl (Nat.le_of_ble_eq_true rfl) kw_296 rfl ?_
    obtain ⟨⟨r3, g4⟩, h2, hF⟩ := ob hF
    refine jj_callN hJ (c_X5_firstFault l D cI cS cII (fun i => RA (i + 1)) X_c X_d X_n  h2) dX6_lay_14 kw_303 ⟨Nat.le_of_ble_eq_true rfl, Nat.le_of_ble_eq_true rfl, rfl, rfl⟩ kw_302 kw_304 kw_305 1 rfl rfl rfl rfl (Nat.le_of_ble_eq_true rfl) [1, 2, 3] rfl rfl (wn := (W_X6_lay cI cS cII RA R_u R_q R_r X_c g4 X_n M_v M_m M_s O_v O_n O_s O_a N_k N_f N_t N_w N_l N_b E_p E_k E_f E_t E_w E_l E_b L_G L_l)) (jNew_sel rfl [none, some 0, some 1, some 2, none, none, none, none, none, none, none, none, none, none, none, none, none, none, none, none, none, none, none, none, none, none, none, none, none, none, none, none, none, none, none, none, none, none, none, none, none, none, none, none, none, none, none, none, none, none, none, none, none, none, none, none, none, none, none, none, none, none, none, none, none, none, none, none] (by decide +kernel) rfl) ?_
    refine jj_bipush hJ dX6_lay_17 bp_m4 ?_
    refine jj_icmp_eq hJ 25 dX6_lay_19 rfl (fun c5 => ?_) (fun c5 => ?_)
    · replace hF := ip c5 hF
      refine jj_aload_n hJ dX6_lay_25 0 rfl rfl ?_
      obtain ⟨⟨g7, g8, g9, g10, g11, g12, g13, g14, g15, g16, g17, g18, g19, g20, g21, g22, g23, g24, g25, g26, g27, g28, g29, g30⟩, h6, hF⟩ := ob hF
      refine jj_callV hJ (c_X6_layText l D cI cS cII RA R_u R_q R_r X_c g4 X_n M_v M_m M_s O_v O_n O_s O_a N_k N_f N_t N_w N_l N_b E_p E_k E_f E_t E_w E_l E_b L_G L_l  h6) dX6_lay_26 kw_463 ⟨Nat.le_of_ble_eq_true rfl, Nat.le_of_ble_eq_true rfl, rfl, rfl⟩ kw_462 kw_464 kw_465 0 rfl rfl rfl rfl (Nat.le_of_ble_eq_true rfl) [0, 1, 2, 3, 4, 5, 6, 7, 8, 9, 10, 11, 12, 13, 14, 15, 16, 17, 18, 19, 20, 21, 22, 23, 24, 25, 26, 27, 28, 29, 30, 31, 32, 33, 34, 35, 36, 37, 38, 39, 40, 41, 42, 43, 44, 45, 46, 47, 48, 49, 50, 51, 52, 53, 54, 55, 56, 57, 58, 59, 60, 61, 62, 63, 64, 65, 66, 67] rfl rfl (wn := (W_X6_lay cI cS cII RA g7 g8 g9 X_c g10 X_n M_v M_m g11 g12 g13 g14 g15 g16 g17 g18 g19 g20 g21 g22 g23 g24 g25 g26 g27 g28 g29 g30)) (jNew_sel rfl [some 0, some 1, some 2, some 3, some 4, some 5, some 6, some 7, some 8, some 9, some 10, some 11, some 12, some 13, some 14, some 15, some 16, some 17, some 18, some 19, some 20, some 21, some 22, some 23, some 24, some 25, some 26, some 27, some 28, some 29, some 30, some 31, some 32, some 33, some 34, some 35, some 36, some 37, some 38, some 39, some 40, some 41, some 42, some 43, some 44, some 45, some 46, some 47, some 48, some 49, some 50, some 51, some 52, some 53, some 54, some 55, some 56, some 57, some 58, some 59, some 60, some 61, some 62, some 63, some 64, some 65, some 66, some 67] (by decide +kernel) rfl) ?_
      refine jj_aload_n hJ dX6_lay_29 0 rfl rfl ?_
      refine jj_get hJ lay_X6 dX6_lay_30 0 1 rfl rfl (Nat.le_of_ble_eq_true rfl) kw_306 rfl ?_
      refine jj_getN hJ lay_X4 dX6_lay_33 10 5 rfl rfl (Nat.le_of_ble_eq_true rfl) kw_328 rfl ?_
      cases Option.some.inj hF
      exact jj_iret hJ dX6_lay_36
    · replace hF := iq c5 hF
      refine jj_bipush hJ dX6_lay_22 bp_m2 ?_
      cases Option.some.inj hF
      exact jj_iret hJ dX6_lay_24
