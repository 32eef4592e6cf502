theorem kw_38 : Cond.fieldLink RX3 18 (TX3 2).1 (TX3 2).2.1 (TX3 2).2.2.1 ∈ lw_tbl := tb1 (i := 132) rfl
theorem kw_39 : Cond.fieldLink RX3 9 (TX3 0).1 (TX3 0).2.1 (TX3 0).2.2.1 ∈ lw_tbl := tb1 (i := 128) rfl
theorem kw_40 : Cond.fieldLink RX3 15 (TX3 1).1 (TX3 1).2.1 (TX3 1).2.2.1 ∈ lw_tbl := tb1 (i := 130) rfl
theorem kw_41 : ((RX3, 29, yX1_implies, "UniverseLevels") : String × Nat × MethodName × String) ∈ nestM := List.mem_of_getElem? (i := 28) rfl
theorem kw_42 : cwOk yX1_implies cX1_implies 4 (some .boolean) 3 := ⟨tb2 (i := 230) rfl, tb1 (i := 4) rfl, by decide, by decide, by decide +kernel⟩
theorem kw_43 : Cond.instanceMethod yX1_implies ∈ lw_tbl := tb2 (i := 229) rfl
theorem kw_44 : Cond.selects RX1 yX1_implies yX1_implies ∈ lw_tbl := tsel (i := 33) (q := (⟨"UniverseLevels$Lengths", "implies", "(III)Z"⟩, 2)) rfl
theorem kw_45 : Cond.methodLink RX3 26 yX3_isNoMore ∈ lw_tbl := tb3 (i := 55) rfl
theorem kw_46 : cwOk yX3_isNoMore cX3_isNoMore 4 (some .boolean) 3 := ⟨tb3 (i := 58) rfl, tb1 (i := 6) rfl, by decide, by decide, by decide +kernel⟩
theorem kw_47 : Cond.instanceMethod yX3_isNoMore ∈ lw_tbl := tb3 (i := 57) rfl
theorem kw_48 : Cond.selects RX3 yX3_isNoMore yX3_isNoMore ∈ lw_tbl := tsel (i := 42) (q := (⟨"UniverseLevels$Rows", "isNoMore", "(IILUniverseLevels$Lengths;)Z"⟩, 3)) rfl
theorem kw_49 : Cond.methodLink RX3 22 yX3_isCovered ∈ lw_tbl := tb3 (i := 51) rfl
theorem kw_50 : cwOk yX3_isCovered cX3_isCovered 4 (some .boolean) 3 := ⟨tb3 (i := 54) rfl, tb1 (i := 6) rfl, by decide, by decide, by decide +kernel⟩
theorem kw_51 : Cond.instanceMethod yX3_isCovered ∈ lw_tbl := tb3 (i := 53) rfl
theorem kw_52 : Cond.selects RX3 yX3_isCovered yX3_isCovered ∈ lw_tbl := tsel (i := 41) (q := (⟨"UniverseLevels$Rows", "isCovered", "(IILUniverseLevels$Lengths;)Z"⟩, 3)) rfl
section
def W_X3_add (cI cS cII : ClassId) (MA : Nat → Nat) (M_v : Nat → Int32) (M_m : Nat → Int32) (M_s : Int32) : va_W := [((MA 0), .inr (3, [.ref (MA 1), .ref (MA 2), .int M_s])), ((MA 1), .inl (cI, 10, .inl M_v)), ((MA 2), .inl (cI, 10, .inl M_m))]
abbrev Rm_X3_add : Room := { frames := 0, cells := 0, slots := 0, locals := 0 }
variable {l : Launch} {D : va_G} {cI cS cII : ClassId} {MA : Nat → Nat} {A : Nat → Prop} {J : jT}
variable {z_M_v : Nat → Int32} {z_M_m : Nat → Int32} {z_M_s : Int32}
def p_X3_add (M_v : Nat → Int32) (M_m : Nat → Int32) (M_s : Int32) (a1 : Int32) (a2 : Int32) : Option ((Nat → Int32) × (Nat → Int32) × Int32) := if 10 ≤ M_s then (some (M_v, M_m, M_s)) else ((wr M_v 10 M_s a1).bind fun g2 => (wr M_m 10 M_s a2).bind fun g4 => some (g2, g4, M_s + 1))
end
set_option maxRecDepth 100000 in
theorem c_X3_add (l : Launch) (D : va_G) (cI cS cII : ClassId) (MA : Nat → Nat) (M_v : Nat → Int32) (M_m : Nat → Int32) (M_s : Int32) (a1 : Int32) (a2 : Int32) {z_M_v : Nat → Int32} {z_M_m : Nat → Int32} {z_M_s : Int32} (hF : p_X3_add M_v M_m M_s a1 a2 = some (z_M_v, z_M_m, z_M_s)) : MJ l yX3_add cX3_add 3 none Rm_X3_add D (tysU cI cS cII) [.ref (MA 0), .int a1, .int a2] (W_X3_add cI cS cII MA M_v M_m M_s) none (W_X3_add cI cS cII MA z_M_v z_M_m z_M_s) := by
  refine mj_of (own := RX3) (by decide) rfl (Nat.le_of_ble_eq_true rfl) (fun J hJ => ?_)
  show J (W_X3_add cI cS cII MA M_v M_m M_s) 0 [(0, .ref (MA 0)), (1, .int a1), (2, .int a2)] []
  unfold p_X3_add at hF
  refine jj_aload_n hJ dX3_add_0 0 rfl rfl ?_
  refine jj_get hJ lay_X3 dX3_add_1 0 2 rfl rfl (Nat.le_of_ble_eq_true rfl) kw_38 rfl ?_
  refine jj_bipush hJ dX3_add_4 bp_10 ?_
  refine jj_icmp_ge hJ 39 dX3_add_6 rfl (fun c1 => ?_) (fun c1 => ?_)
  · replace hF := ip c1 hF
    cases Option.some.inj hF
    exact jj_vret hJ dX3_add_39
  · replace hF := iq c1 hF
    refine jj_aload_n hJ dX3_add_9 0 rfl rfl ?_
    refine jj_get hJ lay_X3 dX3_add_10 0 0 rfl rfl (Nat.le_of_ble_eq_true rfl) kw_39 rfl ?_
    refine jj_aload_n hJ dX3_add_13 0 rfl rfl ?_
    refine jj_get hJ lay_X3 dX3_add_14 0 2 rfl rfl (Nat.le_of_ble_eq_true rfl) kw_38 rfl ?_
    refine jj_iload_n hJ dX3_add_17 1 rfl rfl ?_
    obtain ⟨g2, h3, hF⟩ := ob hF
    refine jj_iast hJ dX3_add_18 1 0 rfl rfl h3 (wn := (W_X3_add cI cS cII MA g2 M_m M_s)) rfl ?_
    refine jj_aload_n hJ dX3_add_19 0 rfl rfl ?_
    refine jj_get hJ lay_X3 dX3_add_20 0 1 rfl rfl (Nat.le_of_ble_eq_true rfl) kw_40 rfl ?_
    refine jj_aload_n hJ dX3_add_23 0 rfl rfl ?_
    refine jj_get hJ lay_X3 dX3_add_24 0 2 rfl rfl (Nat.le_of_ble_eq_true rfl) kw_38 rfl ?_
    refine jj_iload_n hJ dX3_add_27 2 rfl rfl ?_
    obtain ⟨g4, h5, hF⟩ := ob hF
    refine jj_iast hJ dX3_add_28 2 0 rfl rfl h5 (wn := (W_X3_add cI cS cII MA g2 g4 M_s)) rfl ?_
    refine jj_aload_n hJ dX3_add_29 0 rfl rfl ?_
    refine jj_dup hJ dX3_add_30 rfl ?_
    refine jj_get hJ lay_X3 dX3_add_31 0 2 rfl rfl (Nat.le_of_ble_eq_true rfl) kw_38 rfl ?_
    refine jj_iconst hJ dX3_add_34 ic_1 ?_
    refine jj_iadd hJ dX3_add_35 ?_
    refine jj_puti hJ lay_X3 tyX3 tyX3_ok nmX3 dX3_add_36 0 2 rfl rfl (Nat.le_of_ble_eq_true rfl) kw_38 rfl rfl (Nat.le_of_ble_eq_true rfl) (wn := (W_X3_add cI cS cII MA g2 g4 (M_s + 1))) rfl ?_
    cases Option.some.inj hF
    exact jj_vret hJ dX3_add_39
section
def W_X3_isNoMore (cI cS cII : ClassId) (MA : Nat → Nat) (LA : Nat → Nat) (M_v : Nat → Int32) (M_m : Nat → Int32) (M_s : Int32) (L_G : Nat → Nat → Int32) (L_l : Int32) : va_W := ([((MA 0), .inr (3, [.ref (MA 1), .ref (MA 2), .int M_s])), ((MA 1), .inl (cI, 10, .inl M_v)), ((MA 2), .inl (cI, 10, .inl M_m)), ((LA 0), .inr (1, [.ref (LA 1), .int L_l])), ((LA 1), .inl (cII, 10, .inr (.inr (.inr (.inr (fun i => some (LA (i + 2))))))))] ++ rw10 cI (fun i => LA (i + 2)) L_G)
abbrev Rm_X3_isNoMore : Room := { frames := 2, cells := 0, slots := 0, locals := 45 }
variable {l : Launch} {D : va_G} {cI cS cII : ClassId} {MA : Nat → Nat} {LA : Nat → Nat} {A : Nat → Prop} {J : jT}
variable {z_r : Int32}
def p_X3_isNoMore (M_v : Nat → Int32) (M_m : Nat → Int32) (L_G : Nat → Nat → Int32) (a1 : Int32) (a2 : Int32) : Option (Int32) := (rd M_v 10 a1).bind fun x1 => (rd M_m 10 a1).bind fun x3 => (rd M_m 10 a2).bind fun x5 => (rd M_v 10 a2).bind fun x7 => (p_X1_implies L_G x1 (x3 - x5) x7).bind fun r10 => (bz r10).bind fun _ => some r10
end
set_option maxRecDepth 100000 in
theorem c_X3_isNoMore (l : Launch) (D : va_G) (cI cS cII : ClassId) (MA : Nat → Nat) (LA : Nat → Nat) (M_v : Nat → Int32) (M_m : Nat → Int32) (M_s : Int32) (L_G : Nat → Nat → Int32) (L_l : Int32) (a1 : Int32) (a2 : Int32) {z_r : Int32} (hF : p_X3_isNoMore M_v M_m L_G a1 a2 = some z_r) : MJ l yX3_isNoMore cX3_isNoMore 4 (some .boolean) Rm_X3_isNoMore D (tysU cI cS cII) [.ref (MA 0), .int a1, .int a2, .ref (LA 0)] (W_X3_isNoMore cI cS cII MA LA M_v M_m M_s L_G L_l) (some z_r) (W_X3_isNoMore cI cS cII MA LA M_v M_m M_s L_G L_l) := by
  refine mj_of (own := RX3) (by decide) rfl (Nat.le_of_ble_eq_true rfl) (fun J hJ => ?_)
  show J (W_X3_isNoMore cI cS cII MA LA M_v M_m M_s L_G L_l) 0 [(0, .ref (MA 0)), (1, .int a1), (2, .int a2), (3, .ref (LA 0))] []
  unfold p_X3_isNoMore at hF
  refine jj_aload_n hJ dX3_isNoMore_0 3 rfl rfl ?_
  refine jj_aload_n hJ dX3_isNoMore_1 0 rfl rfl ?_
  refine jj_get hJ lay_X3 dX3_isNoMore_2 0 0 rfl rfl (Nat.le_of_ble_eq_true rfl) kw_39 rfl ?_
  refine jj_iload_n hJ dX3_isNoMore_5 1 rfl rfl ?_
  obtain ⟨x1, h2, hF⟩ := ob hF
  refine jj_iald hJ dX3_isNoMore_6 1 0 rfl rfl h2 ?_
  refine jj_aload_n hJ dX3_isNoMore_7 0 rfl rfl ?_
  refine jj_get hJ lay_X3 dX3_isNoMore_8 0 1 rfl rfl (Nat.le_of_ble_eq_true rfl) kw_40 rfl ?_
  refine jj_iload_n hJ dX3_isNoMore_11 1 rfl rfl ?_
  obtain ⟨x3, h4, hF⟩ := ob hF
  refine jj_iald hJ dX3_isNoMore_12 2 0 rfl rfl h4 ?_
  refine jj_aload_n hJ dX3_isNoMore_13 0 rfl rfl ?_
  refine jj_get hJ lay_X3 dX3_isNoMore_14 0 1 rfl rfl (Nat.le_of_ble_eq_true rfl) kw_40 rfl ?_
  refine jj_iload_n hJ dX3_isNoMore_17 2 rfl rfl ?_
  obtain ⟨x5, h6, hF⟩ := ob hF
  refine jj_iald hJ dX3_isNoMore_18 2 0 rfl rfl h6 ?_
  refine jj_isub hJ dX3_isNoMore_19 ?_
  refine jj_aload_n hJ dX3_isNoMore_20 0 rfl rfl ?_
  refine jj_get hJ lay_X3 dX3_isNoMore_21 0 0 rfl rfl (Nat.le_of_ble_eq_true rfl) kw_39 rfl ?_
  refine jj_iload_n hJ dX3_isNoMore_24 2 rfl rfl ?_
  obtain ⟨x7, h8, hF⟩ := ob hF
  refine jj_iald hJ dX3_isNoMore_25 1 0 rfl rfl h8 ?_
  obtain ⟨r10, h9, hF⟩ := ob hF
  refine jj_callN0 hJ (c_X1_implies l D cI cS cII LA L_G L_l x1 (x3 - x5) x7 h9) dX3_isNoMore_26 kw_42 ⟨Nat.le_of_ble_eq_true rfl, Nat.le_of_ble_eq_true rfl, rfl, rfl⟩ kw_41 kw_43 kw_44 3 rfl rfl rfl rfl (Nat.le_of_ble_eq_true rfl) [3, 4, 5, 6, 7, 8, 9, 10, 11, 12, 13, 14] rfl rfl ?_
  obtain ⟨_, b11, hF⟩ := ob hF
  cases Option.some.inj hF
  exact jj_zret hJ (bz_some b11) dX3_isNoMore_29
section
def W_X3_isCovered (cI cS cII : ClassId) (MA : Nat → Nat) (LA : Nat → Nat) (M_v : Nat → Int32) (M_m : Nat → Int32) (M_s : Int32) (L_G : Nat → Nat → Int32) (L_l : Int32) : va_W := ([((MA 0), .inr (3, [.ref (MA 1), .ref (MA 2), .int M_s])), ((MA 1), .inl (cI, 10, .inl M_v)), ((MA 2), .inl (cI, 10, .inl M_m)), ((LA 0), .inr (1, [.ref (LA 1), .int L_l])), ((LA 1), .inl (cII, 10, .inr (.inr (.inr (.inr (fun i => some (LA (i + 2))))))))] ++ rw10 cI (fun i => LA (i + 2)) L_G)
abbrev Rm_X3_isCovered : Room := { frames := 3, cells := 0, slots := 0, locals := 68 }
variable {l : Launch} {D : va_G} {cI cS cII : ClassId} {MA : Nat → Nat} {LA : Nat → Nat} {A : Nat → Prop} {J : jT}
variable {z_r : Int32}
def p_X3_isCovered (M_v : Nat → Int32) (M_m : Nat → Int32) (L_G : Nat → Nat → Int32) (a1 : Int32) (a2 : Int32) : Option (Int32) := (p_X3_isNoMore M_v M_m L_G a1 a2).bind fun r2 => if r2 = 0 then (some 0) else (if a2 < a1 then (some 1) else ((p_X3_isNoMore M_v M_m L_G a2 a1).bind fun r6 => if r6 = 0 then (some 1) else (some 0)))
end
set_option maxRecDepth 100000 in
theorem c_X3_isCovered (l : Launch) (D : va_G) (cI cS cII : ClassId) (MA : Nat → Nat) (LA : Nat → Nat) (M_v : Nat → Int32) (M_m : Nat → Int32) (M_s : Int32) (L_G : Nat → Nat → Int32) (L_l : Int32) (a1 : Int32) (a2 : Int32) {z_r : Int32} (hF : p_X3_isCovered M_v M_m L_G a1 a2 = some z_r) : MJ l yX3_isCovered cX3_isCovered 4 (some .boolean) Rm_X3_isCovered D (tysU cI cS cII) [.ref (MA 0), .int a1, .int a2, .ref (LA 0)] (W_X3_isCovered cI cS cII MA LA M_v M_m M_s L_G L_l) (some z_r) (W_X3_isCovered cI cS cII MA LA M_v M_m M_s L_G L_l) := by
  refine mj_of (own := RX3) (by decide) rfl (Nat.le_of_ble_eq_true rfl) (fun J hJ => ?_)
  show J (W_X3_isCovered cI cS cII MA LA M_v M_m M_s L_G L_l) 0 [(0, .ref (MA 0)), (1, .int a1), (2, .int a2), (3, .ref (LA 0))] []
  unfold p_X3_isCovered at hF
  refine jj_aload_n hJ dX3_isCovered_0 0 rfl rfl ?_
  refine jj_iload_n hJ dX3_isCovered_1 1 rfl rfl ?_
  refine jj_iload_n hJ dX3_isCovered_2 2 rfl rfl ?_
  refine jj_aload_n hJ dX3_isCovered_3 3 rfl rfl ?_
  obtain ⟨r2, h1, hF⟩ := ob hF
  refine jj_callV0 hJ (c_X3_isNoMore l D cI cS cII MA LA M_v M_m M_s L_G L_l a1 a2 h1) dX3_isCovered_4 kw_46 ⟨Nat.le_of_ble_eq_true rfl, Nat.le_of_ble_eq_true rfl, rfl, rfl⟩ kw_45 kw_47 kw_48 0 rfl rfl rfl rfl (Nat.le_of_ble_eq_true rfl) [0, 1, 2, 3, 4, 5, 6, 7, 8, 9, 10, 11, 12, 13, 14] rfl rfl ?_
  refine jj_if_eq hJ 29 dX3_isCovered_7 rfl (fun c3 => ?_) (fun c3 => ?_)
  · replace hF := ip c3 hF
    refine jj_iconst hJ dX3_isCovered_29 ic_0 ?_
    cases Option.some.inj hF
    exact jj_zret hJ (Or.inl rfl) dX3_isCovered_30
  · replace hF := iq c3 hF
    refine jj_iload_n hJ dX3_isCovered_10 2 rfl rfl ?_
    refine jj_iload_n hJ dX3_isCovered_11 1 rfl rfl ?_
    refine jj_icmp_lt hJ 25 dX3_isCovered_12 rfl (fun c4 => ?_) (fun c4 => ?_)
    · replace hF := ip c4 hF
      refine jj_iconst hJ dX3_isCovered_25 ic_1 ?_
      refine jj_goto hJ 30 dX3_isCovered_26 rfl ?_
      cases Option.some.inj hF
      exact jj_zret hJ (Or.inr rfl) dX3_isCovered_30
    · replace hF := iq c4 hF
      refine jj_aload_n hJ dX3_isCovered_15 0 rfl rfl ?_
      refine jj_iload_n hJ dX3_isCovered_16 2 rfl rfl ?_
      refine jj_iload_n hJ dX3_isCovered_17 1 rfl rfl ?_
      refine jj_aload_n hJ dX3_isCovered_18 3 rfl rfl ?_
      obtain ⟨r6, h5, hF⟩ := ob hF
      refine jj_callV0 hJ (c_X3_isNoMore l D cI cS cII MA LA M_v M_m M_s L_G L_l a2 a1 h5) dX3_isCovered_19 kw_46 ⟨Nat.le_of_ble_eq_true rfl, Nat.le_of_ble_eq_true rfl, rfl, rfl⟩ kw_45 kw_47 kw_48 0 rfl rfl rfl rfl (Nat.le_of_ble_eq_true rfl) [0, 1, 2, 3, 4, 5, 6, 7, 8, 9, 10, 11, 12, 13, 14] rfl rfl ?_
      refine jj_if_ne hJ 29 dX3_isCovered_22 rfl (fun c7 => ?_) (fun c7 => ?_)
      · replace hF := iq c7 hF
        refine jj_iconst hJ dX3_isCovered_29 ic_0 ?_
        cases Option.some.inj hF
        exact jj_zret hJ (Or.inl rfl) dX3_isCovered_30
      · replace hF := ip c7 hF
        refine jj_iconst hJ dX3_isCovered_25 ic_1 ?_
        refine jj_goto hJ 30 dX3_isCovered_26 rfl ?_
        cases Option.some.inj hF
        exact jj_zret hJ (Or.inr rfl) dX3_isCovered_30
section
def W_X3_isShort (cI cS cII : ClassId) (MA : Nat → Nat) (LA : Nat → Nat) (M_v : Nat → Int32) (M_m : Nat → Int32) (M_s : Int32) (L_G : Nat → Nat → Int32) (L_l : Int32) : va_W := ([((MA 0), .inr (3, [.ref (MA 1), .ref (MA 2), .int M_s])), ((MA 1), .inl (cI, 10, .inl M_v)), ((MA 2), .inl (cI, 10, .inl M_m)), ((LA 0), .inr (1, [.ref (LA 1), .int L_l])), ((LA 1), .inl (cII, 10, .inr (.inr (.inr (.inr (fun i => some (LA (i + 2))))))))] ++ rw10 cI (fun i => LA (i + 2)) L_G)
abbrev Rm_X3_isShort : Room := { frames := 4, cells := 0, slots := 0, locals := 91 }
variable {l : Launch} {D : va_G} {cI cS cII : ClassId} {MA : Nat → Nat} {LA : Nat → Nat} {A : Nat → Prop} {J : jT}
variable {z_r : Int32}
def q_X3_isShort_2 (M_v : Nat → Int32) (M_m : Nat → Int32) (M_s : Int32) (L_G : Nat → Nat → Int32) (a1 : Int32)  : Nat → Int32 → Option (Int32)
  | 0, _ => none
  | n + 1, v3 => if M_s ≤ v3 then (some 1) else (if v3 = a1 then (q_X3_isShort_2 M_v M_m M_s L_G a1 n (v3 + 1)) else ((p_X3_isCovered M_v M_m L_G a1 v3).bind fun r4 => if r4 = 0 then (q_X3_isShort_2 M_v M_m M_s L_G a1 n (v3 + 1)) else (some 0)))
set_option maxRecDepth 100000 in
theorem w_X3_isShort_2 {M_v : Nat → Int32} {M_m : Nat → Int32} {M_s : Int32} {L_G : Nat → Nat → Int32} {L_l : Int32} {a1 : Int32}  (hJ : jJ l cX3_isShort 4 D (tysU cI cS cII) RX3 Rm_X3_isShort (some .boolean) A (some z_r) (W_X3_isShort cI cS cII MA LA M_v M_m M_s L_G L_l) J)  : ∀ (n : Nat) (v3 : Int32), q_X3_isShort_2 M_v M_m M_s L_G a1 n v3 = some z_r → J (W_X3_isShort cI cS cII MA LA M_v M_m M_s L_G L_l) 2 [(3, .int v3), (0, .ref (MA 0)), (1, .int a1), (2, .ref (LA 0))] [] := by
  intro n
  induction n with
  | zero =>
    intro v3 hF
    exact no_some (show (none : Option (Int32)) = some z_r from hF)
  | succ n ih =>
    intro v3 hF
    rw [q_X3_isShort_2.eq_2] at hF
    refine jj_iload_n hJ dX3_isShort_2 0 rfl rfl ?_
    refine jj_aload_n hJ dX3_isShort_3 1 rfl rfl ?_
    refine jj_get hJ lay_X3 dX3_isShort_4 0 2 rfl rfl (Nat.le_of_ble_eq_true rfl) kw_38 rfl ?_
    refine jj_icmp_ge hJ 33 dX3_isShort_7 rfl (fun c1 => ?_) (fun c1 => ?_)
    · replace hF := ip c1 hF
      refine jj_iconst hJ dX3_isShort_33 ic_1 ?_
      cases Option.some.inj hF
      exact jj_zret hJ (Or.inr rfl) dX3_isShort_34
    · replace hF := iq c1 hF
      refine jj_iload_n hJ dX3_isShort_10 0 rfl rfl ?_
      refine jj_iload_n hJ dX3_isShort_11 2 rfl rfl ?_
      refine jj_icmp_eq hJ 27 dX3_isShort_12 rfl (fun c2 => ?_) (fun c2 => ?_)
      · replace hF := ip c2 hF
        refine jj_iinc hJ dX3_isShort_27 0 rfl (v := v3 + 1) (by rw [ic_1]) (Nat.le_of_ble_eq_true rfl) (lv' := [(3, .int (v3 + 1)), (0, .ref (MA 0)), (1, .int a1), (2, .ref (LA 0))]) rfl ?_
        refine jj_goto hJ 2 dX3_isShort_30 rfl ?_
        exact ih (v3 + 1) hF
      · replace hF := iq c2 hF
        refine jj_aload_n hJ dX3_isShort_15 1 rfl rfl ?_
        refine jj_iload_n hJ dX3_isShort_16 2 rfl rfl ?_
        refine jj_iload_n hJ dX3_isShort_17 0 rfl rfl ?_
        refine jj_aload_n hJ dX3_isShort_18 3 rfl rfl ?_
        obtain ⟨r4, h3, hF⟩ := ob hF
        refine jj_callV0 hJ (c_X3_isCovered l D cI cS cII MA LA M_v M_m M_s L_G L_l a1 v3 h3) dX3_isShort_19 kw_50 ⟨Nat.le_of_ble_eq_true rfl, Nat.le_of_ble_eq_true rfl, rfl, rfl⟩ kw_49 kw_51 kw_52 0 rfl rfl rfl rfl (Nat.le_of_ble_eq_true rfl) [0, 1, 2, 3, 4, 5, 6, 7, 8, 9, 10, 11, 12, 13, 14] rfl rfl ?_
        refine jj_if_eq hJ 27 dX3_isShort_22 rfl (fun c5 => ?_) (fun c5 => ?_)
        · replace hF := ip c5 hF
          refine jj_iinc hJ dX3_isShort_27 0 rfl (v := v3 + 1) (by rw [ic_1]) (Nat.le_of_ble_eq_true rfl) (lv' := [(3, .int (v3 + 1)), (0, .ref (MA 0)), (1, .int a1), (2, .ref (LA 0))]) rfl ?_
          refine jj_goto hJ 2 dX3_isShort_30 rfl ?_
          exact ih (v3 + 1) hF
        · replace hF := iq c5 hF
          refine jj_iconst hJ dX3_isShort_25 ic_0 ?_
          cases Option.some.inj hF
          exact jj_zret hJ (Or.inl rfl) dX3_isShort_26
def p_X3_isShort (M_v : Nat → Int32) (M_m : Nat → Int32) (M_s : Int32) (L_G : Nat → Nat → Int32) (a1 : Int32) : Option (Int32) := q_X3_isShort_2 M_v M_m M_s L_G a1 FU 0
end
set_option maxRecDepth 100000 in
theorem c_X3_isShort (l : Launch) (D : va_G) (cI cS cII : ClassId) (MA : Nat → Nat) (LA : Nat → Nat) (M_v : Nat → Int32) (M_m : Nat → Int32) (M_s : Int32) (L_G : Nat → Nat → Int32) (L_l : Int32) (a1 : Int32) {z_r : Int32} (hF : p_X3_isShort M_v M_m M_s L_G a1 = some z_r) : MJ l yX3_isShort cX3_isShort 4 (some .boolean) Rm_X3_isShort D (tysU cI cS cII) [.ref (MA 0), .int a1, .ref (LA 0)] (W_X3_isShort cI cS cII MA LA M_v M_m M_s L_G L_l) (some z_r) (W_X3_isShort cI cS cII MA LA M_v M_m M_s L_G L_l) := by
  refine mj_of (own := RX3) (by decide) rfl (Nat.le_of_ble_eq_true rfl) (fun J hJ => ?_)
  show J (W_X3_isShort cI cS cII MA LA M_v M_m M_s L_G L_l) 0 [(0, .ref (MA 0)), (1, .int a1), (2, .ref (LA 0))] []
  unfold p_X3_isShort at hF
  refine jj_iconst hJ dX3_isShort_0 ic_0 ?_
  refine jj_istore_n hJ dX3_isShort_1 rfl (Nat.le_of_ble_eq_true rfl) (lv' := [(3, .int 0), (0, .ref (MA 0)), (1, .int a1), (2, .ref (LA 0))]) rfl ?_
  exact w_X3_isShort_2 hJ  FU 0 hF
