theorem kw_78 : Cond.fieldLink RX5 18 (TX5 2).1 (TX5 2).2.1 (TX5 2).2.2.1 ∈ lw_tbl := tb1 (i := 34) rfl
theorem sp_200 : (Int16.ofInt (200)).toInt32 = (200 : Int32) := by decide
theorem kw_79 : Cond.fieldLink RX5 9 (TX5 0).1 (TX5 0).2.1 (TX5 0).2.2.1 ∈ lw_tbl := tb1 (i := 30) rfl
theorem bp_48 : (Int8.ofInt (48)).toInt32 = (48 : Int32) := by decide
theorem bp_57 : (Int8.ofInt (57)).toInt32 = (57 : Int32) := by decide
theorem kw_80 : Cond.methodLink RX5 26 yX5_letterAt ∈ lw_tbl := tb1 (i := 227) rfl
theorem kw_81 : cwOk yX5_letterAt cX5_letterAt 2 (some .int) 1 := ⟨tb1 (i := 222) rfl, tb1 (i := 2) rfl, by decide, by decide, by decide +kernel⟩
theorem kw_82 : Cond.instanceMethod yX5_letterAt ∈ lw_tbl := tb1 (i := 221) rfl
theorem kw_83 : Cond.selects RX5 yX5_letterAt yX5_letterAt ∈ lw_tbl := tsel (i := 2) (q := (⟨"UniverseLevels$Text", "letterAt", "(I)I"⟩, 3)) rfl
theorem kw_84 : cwOk yX5_isFigure cX5_isFigure 1 (some .boolean) 1 := ⟨tb1 (i := 237) rfl, tb1 (i := 2) rfl, by decide, by decide, by decide +kernel⟩
theorem kw_85 : Cond.methodLink RX5 43 yX5_isFigure ∈ lw_tbl := tb1 (i := 235) rfl
theorem kw_86 : Cond.static yX5_isFigure ∈ lw_tbl := tb1 (i := 236) rfl
theorem ic_2 : Int32.ofInt (2) = (2 : Int32) := by decide
theorem kw_87 : cwOk yX5_numbersBehind cX5_numbersBehind 1 (some .int) 1 := ⟨tb1 (i := 230) rfl, tb1 (i := 2) rfl, by decide, by decide, by decide +kernel⟩
theorem kw_88 : Cond.methodLink RX5 33 yX5_numbersBehind ∈ lw_tbl := tb1 (i := 228) rfl
theorem kw_89 : Cond.static yX5_numbersBehind ∈ lw_tbl := tb1 (i := 229) rfl
theorem kw_90 : Cond.methodLink RX5 36 yX5_figuresAt ∈ lw_tbl := tb1 (i := 231) rfl
theorem kw_91 : cwOk yX5_figuresAt cX5_figuresAt 2 (some .int) 1 := ⟨tb1 (i := 234) rfl, tb1 (i := 2) rfl, by decide, by decide, by decide +kernel⟩
theorem kw_92 : Cond.instanceMethod yX5_figuresAt ∈ lw_tbl := tb1 (i := 233) rfl
theorem kw_93 : Cond.selects RX5 yX5_figuresAt yX5_figuresAt ∈ lw_tbl := tsel (i := 4) (q := (⟨"UniverseLevels$Text", "figuresAt", "(I)I"⟩, 3)) rfl
theorem bp_44 : (Int8.ofInt (44)).toInt32 = (44 : Int32) := by decide
theorem bp_59 : (Int8.ofInt (59)).toInt32 = (59 : Int32) := by decide
theorem kw_94 : Cond.fieldLink RX5 15 (TX5 1).1 (TX5 1).2.1 (TX5 1).2.2.1 ∈ lw_tbl := tb1 (i := 31) rfl
theorem kw_95 : Cond.methodLink RX5 39 yX5_numberAt ∈ lw_tbl := tb1 (i := 238) rfl
theorem kw_96 : cwOk yX5_numberAt cX5_numberAt 4 (some .int) 2 := ⟨tb2 (i := 1) rfl, tb1 (i := 2) rfl, by decide, by decide, by decide +kernel⟩
theorem kw_97 : Cond.instanceMethod yX5_numberAt ∈ lw_tbl := tb2 (i := 0) rfl
theorem kw_98 : Cond.selects RX5 yX5_numberAt yX5_numberAt ∈ lw_tbl := tsel (i := 5) (q := (⟨"UniverseLevels$Text", "numberAt", "(II)I"⟩, 3)) rfl
theorem bp_118 : (Int8.ofInt (118)).toInt32 = (118 : Int32) := by decide
theorem bp_99 : (Int8.ofInt (99)).toInt32 = (99 : Int32) := by decide
theorem bp_9 : (Int8.ofInt (9)).toInt32 = (9 : Int32) := by decide
theorem kw_99 : Cond.methodLink RX5 22 yX5_readItem ∈ lw_tbl := tb2 (i := 131) rfl
theorem kw_100 : cwOk yX5_readItem cX5_readItem 7 (some .int) 1 := ⟨tb1 (i := 226) rfl, tb1 (i := 2) rfl, by decide, by decide, by decide +kernel⟩
theorem kw_101 : Cond.instanceMethod yX5_readItem ∈ lw_tbl := tb1 (i := 225) rfl
theorem kw_102 : Cond.selects RX5 yX5_readItem yX5_readItem ∈ lw_tbl := tsel (i := 3) (q := (⟨"UniverseLevels$Text", "readItem", "(I)I"⟩, 3)) rfl
theorem kw_103 : Cond.methodLink RX5 29 yX5_isAllowed ∈ lw_tbl := tb2 (i := 132) rfl
theorem kw_104 : cwOk yX5_isAllowed cX5_isAllowed 5 (some .boolean) 2 := ⟨tb2 (i := 135) rfl, tb1 (i := 2) rfl, by decide, by decide, by decide +kernel⟩
theorem kw_105 : Cond.instanceMethod yX5_isAllowed ∈ lw_tbl := tb2 (i := 134) rfl
theorem kw_106 : Cond.selects RX5 yX5_isAllowed yX5_isAllowed ∈ lw_tbl := tsel (i := 21) (q := (⟨"UniverseLevels$Text", "isAllowed", "(II)Z"⟩, 3)) rfl
section
def W_X5_append (cI cS cII : ClassId) (XA : Nat → Nat) (X_c : Nat → Int32) (X_d : Nat → Int32) (X_n : Int32) : va_W := [((XA 0), .inr (5, [.ref (XA 1), .ref (XA 2), .int X_n])), ((XA 1), .inl (cI, 200, .inl X_c)), ((XA 2), .inl (cI, 3, .inl X_d))]
abbrev Rm_X5_append : Room := { frames := 0, cells := 0, slots := 0, locals := 0 }
variable {l : Launch} {D : va_G} {cI cS cII : ClassId} {XA : Nat → Nat} {A : Nat → Prop} {J : jT}
variable {z_r : Int32} {z_X_c : Nat → Int32} {z_X_n : Int32}
def p_X5_append (X_c : Nat → Int32) (X_n : Int32) (a1 : Int32) : Option (Int32 × (Nat → Int32) × Int32) := if X_n < 200 then ((wr X_c 200 X_n a1).bind fun g2 => some (1, g2, X_n + 1)) else (some (0, X_c, X_n))
end
set_option maxRecDepth 100000 in
theorem c_X5_append (l : Launch) (D : va_G) (cI cS cII : ClassId) (XA : Nat → Nat) (X_c : Nat → Int32) (X_d : Nat → Int32) (X_n : Int32) (a1 : Int32) {z_r : Int32} {z_X_c : Nat → Int32} {z_X_n : Int32} (hF : p_X5_append X_c X_n a1 = some (z_r, z_X_c, z_X_n)) : MJ l yX5_append cX5_append 2 (some .boolean) Rm_X5_append D (tysU cI cS cII) [.ref (XA 0), .int a1] (W_X5_append cI cS cII XA X_c X_d X_n) (some z_r) (W_X5_append cI cS cII XA z_X_c X_d z_X_n) := by
  refine mj_of (own := RX5) (by decide) rfl (Nat.le_of_ble_eq_true rfl) (fun J hJ => ?_)
  show J (W_X5_append cI cS cII XA X_c X_d X_n) 0 [(0, .ref (XA 0)), (1, .int a1)] []
  unfold p_X5_append at hF
  refine jj_aload_n hJ dX5_append_0 0 rfl rfl ?_
  refine jj_get hJ lay_X5 dX5_append_1 0 2 rfl rfl (Nat.le_of_ble_eq_true rfl) kw_78 rfl ?_
  refine jj_sipush hJ dX5_append_4 sp_200 ?_
  refine jj_icmp_lt hJ 12 dX5_append_7 rfl (fun c1 => ?_) (fun c1 => ?_)
  · replace hF := ip c1 hF
    refine jj_aload_n hJ dX5_append_12 0 rfl rfl ?_
    refine jj_get hJ lay_X5 dX5_append_13 0 0 rfl rfl (Nat.le_of_ble_eq_true rfl) kw_79 rfl ?_
    refine jj_aload_n hJ dX5_append_16 0 rfl rfl ?_
    refine jj_get hJ lay_X5 dX5_append_17 0 2 rfl rfl (Nat.le_of_ble_eq_true rfl) kw_78 rfl ?_
    refine jj_iload_n hJ dX5_append_20 1 rfl rfl ?_
    obtain ⟨g2, h3, hF⟩ := ob hF
    refine jj_iast hJ dX5_append_21 1 0 rfl rfl h3 (wn := (W_X5_append cI cS cII XA g2 X_d X_n)) rfl ?_
    refine jj_aload_n hJ dX5_append_22 0 rfl rfl ?_
    refine jj_dup hJ dX5_append_23 rfl ?_
    refine jj_get hJ lay_X5 dX5_append_24 0 2 rfl rfl (Nat.le_of_ble_eq_true rfl) kw_78 rfl ?_
    refine jj_iconst hJ dX5_append_27 ic_1 ?_
    refine jj_iadd hJ dX5_append_28 ?_
    refine jj_puti hJ lay_X5 tyX5 tyX5_ok nmX5 dX5_append_29 0 2 rfl rfl (Nat.le_of_ble_eq_true rfl) kw_78 rfl rfl (Nat.le_of_ble_eq_true rfl) (wn := (W_X5_append cI cS cII XA g2 X_d (X_n + 1))) rfl ?_
    refine jj_iconst hJ dX5_append_32 ic_1 ?_
    cases Option.some.inj hF
    exact jj_zret hJ (Or.inr rfl) dX5_append_33
  · replace hF := iq c1 hF
    refine jj_iconst hJ dX5_append_10 ic_0 ?_
    cases Option.some.inj hF
    exact jj_zret hJ (Or.inl rfl) dX5_append_11
section
def W_X5_letterAt (cI cS cII : ClassId) (XA : Nat → Nat) (X_c : Nat → Int32) (X_d : Nat → Int32) (X_n : Int32) : va_W := [((XA 0), .inr (5, [.ref (XA 1), .ref (XA 2), .int X_n])), ((XA 1), .inl (cI, 200, .inl X_c)), ((XA 2), .inl (cI, 3, .inl X_d))]
abbrev Rm_X5_letterAt : Room := { frames := 0, cells := 0, slots := 0, locals := 0 }
variable {l : Launch} {D : va_G} {cI cS cII : ClassId} {XA : Nat → Nat} {A : Nat → Prop} {J : jT}
variable {z_r : Int32}
def p_X5_letterAt (X_c : Nat → Int32) (X_n : Int32) (a1 : Int32) : Option (Int32) := if a1 < 0 then (some 0) else (if X_n ≤ a1 then (some 0) else ((rd X_c 200 a1).bind fun x3 => some x3))
end
set_option maxRecDepth 100000 in
theorem c_X5_letterAt (l : Launch) (D : va_G) (cI cS cII : ClassId) (XA : Nat → Nat) (X_c : Nat → Int32) (X_d : Nat → Int32) (X_n : Int32) (a1 : Int32) {z_r : Int32} (hF : p_X5_letterAt X_c X_n a1 = some z_r) : MJ l yX5_letterAt cX5_letterAt 2 (some .int) Rm_X5_letterAt D (tysU cI cS cII) [.ref (XA 0), .int a1] (W_X5_letterAt cI cS cII XA X_c X_d X_n) (some z_r) (W_X5_letterAt cI cS cII XA X_c X_d X_n) := by
  refine mj_of (own := RX5) (by decide) rfl (Nat.le_of_ble_eq_true rfl) (fun J hJ => ?_)
  show J (W_X5_letterAt cI cS cII XA X_c X_d X_n) 0 [(0, .ref (XA 0)), (1, .int a1)] []
  unfold p_X5_letterAt at hF
  refine jj_iload_n hJ dX5_letterAt_0 1 rfl rfl ?_
  refine jj_if_lt hJ 21 dX5_letterAt_1 rfl (fun c1 => ?_) (fun c1 => ?_)
  · replace hF := ip c1 hF
    refine jj_iconst hJ dX5_letterAt_21 ic_0 ?_
    cases Option.some.inj hF
    exact jj_iret hJ dX5_letterAt_22
  · replace hF := iq c1 hF
    refine jj_iload_n hJ dX5_letterAt_4 1 rfl rfl ?_
    refine jj_aload_n hJ dX5_letterAt_5 0 rfl rfl ?_
    refine jj_get hJ lay_X5 dX5_letterAt_6 0 2 rfl rfl (Nat.le_of_ble_eq_true rfl) kw_78 rfl ?_
    refine jj_icmp_ge hJ 21 dX5_letterAt_9 rfl (fun c2 => ?_) (fun c2 => ?_)
    · replace hF := ip c2 hF
      refine jj_iconst hJ dX5_letterAt_21 ic_0 ?_
      cases Option.some.inj hF
      exact jj_iret hJ dX5_letterAt_22
    · replace hF := iq c2 hF
      refine jj_aload_n hJ dX5_letterAt_12 0 rfl rfl ?_
      refine jj_get hJ lay_X5 dX5_letterAt_13 0 0 rfl rfl (Nat.le_of_ble_eq_true rfl) kw_79 rfl ?_
      refine jj_iload_n hJ dX5_letterAt_16 1 rfl rfl ?_
      obtain ⟨x3, h4, hF⟩ := ob hF
      refine jj_iald hJ dX5_letterAt_17 1 0 rfl rfl h4 ?_
      refine jj_goto hJ 22 dX5_letterAt_18 rfl ?_
      cases Option.some.inj hF
      exact jj_iret hJ dX5_letterAt_22
section
abbrev Rm_X5_numbersBehind : Room := { frames := 0, cells := 0, slots := 0, locals := 0 }
variable {l : Launch} {D : va_G} {cI cS cII : ClassId}  {A : Nat → Prop} {J : jT}
variable {z_r : Int32}
def p_X5_numbersBehind (a0 : Int32) : Option (Int32) := if a0 = 99 then (some 3) else if a0 = 100 then (some 3) else if a0 = 118 then (some 1) else (some 0)
end
set_option maxRecDepth 100000 in
theorem c_X5_numbersBehind (l : Launch) (D : va_G) (cI cS cII : ClassId)   (a0 : Int32) {z_r : Int32} (hF : p_X5_numbersBehind a0 = some z_r) : MJ l yX5_numbersBehind cX5_numbersBehind 1 (some .int) Rm_X5_numbersBehind D (tysU cI cS cII) [.int a0] ([] : va_W) (some z_r) ([] : va_W) := by
  refine mj_of (own := RX5) (by decide) rfl (Nat.le_of_ble_eq_true rfl) (fun J hJ => ?_)
  show J ([] : va_W) 0 [(0, .int a0)] []
  unfold p_X5_numbersBehind at hF
  refine jj_iload_n hJ dX5_numbersBehind_0 0 rfl rfl ?_
  by_cases c1 : a0 = 99
  · replace hF := ip c1 hF
    refine jj_lsw hJ 38 dX5_numbersBehind_1 (by decide) (by rw [c1] <;> rfl) rfl ?_
    refine jj_iconst hJ dX5_numbersBehind_38 ic_3 ?_
    cases Option.some.inj hF
    exact jj_iret hJ dX5_numbersBehind_39
  replace hF := iq c1 hF
  by_cases c2 : a0 = 100
  · replace hF := ip c2 hF
    refine jj_lsw hJ 38 dX5_numbersBehind_1 (by decide) (by rw [c2] <;> rfl) rfl ?_
    refine jj_iconst hJ dX5_numbersBehind_38 ic_3 ?_
    cases Option.some.inj hF
    exact jj_iret hJ dX5_numbersBehind_39
  replace hF := iq c2 hF
  by_cases c3 : a0 = 118
  · replace hF := ip c3 hF
    refine jj_lsw hJ 36 dX5_numbersBehind_1 (by decide) (by rw [c3] <;> rfl) rfl ?_
    refine jj_iconst hJ dX5_numbersBehind_36 ic_1 ?_
    cases Option.some.inj hF
    exact jj_iret hJ dX5_numbersBehind_37
  replace hF := iq c3 hF
  refine jj_lsw hJ 40 dX5_numbersBehind_1 (by decide) (off := 39) (by show Op.lookupswitch.offset [(99, 37), (100, 37), (118, 35)] _ _ = _; rw [lv_osw c1 (show (99 : Int32).toInt = 99 from rfl), lv_osw c2 (show (100 : Int32).toInt = 100 from rfl), lv_osw c3 (show (118 : Int32).toInt = 118 from rfl)]; rfl) rfl ?_
  refine jj_iconst hJ dX5_numbersBehind_40 ic_0 ?_
  cases Option.some.inj hF
  exact jj_iret hJ dX5_numbersBehind_41
section
abbrev Rm_X5_isFigure : Room := { frames := 0, cells := 0, slots := 0, locals := 0 }
variable {l : Launch} {D : va_G} {cI cS cII : ClassId}  {A : Nat → Prop} {J : jT}
variable {z_r : Int32}
def p_X5_isFigure (a0 : Int32) : Option (Int32) := if a0 < 48 then (some 0) else (if 57 < a0 then (some 0) else (some 1))
end
set_option maxRecDepth 100000 in
theorem c_X5_isFigure (l : Launch) (D : va_G) (cI cS cII : ClassId)   (a0 : Int32) {z_r : Int32} (hF : p_X5_isFigure a0 = some z_r) : MJ l yX5_isFigure cX5_isFigure 1 (some .boolean) Rm_X5_isFigure D (tysU cI cS cII) [.int a0] ([] : va_W) (some z_r) ([] : va_W) := by
  refine mj_of (own := RX5) (by decide) rfl (Nat.le_of_ble_eq_true rfl) (fun J hJ => ?_)
  show J ([] : va_W) 0 [(0, .int a0)] []
  unfold p_X5_isFigure at hF
  refine jj_iload_n hJ dX5_isFigure_0 0 rfl rfl ?_
  refine jj_bipush hJ dX5_isFigure_1 bp_48 ?_
  refine jj_icmp_lt hJ 16 dX5_isFigure_3 rfl (fun c1 => ?_) (fun c1 => ?_)
  · replace hF := ip c1 hF
    refine jj_iconst hJ dX5_isFigure_16 ic_0 ?_
    cases Option.some.inj hF
    exact jj_zret hJ (Or.inl rfl) dX5_isFigure_17
  · replace hF := iq c1 hF
    refine jj_iload_n hJ dX5_isFigure_6 0 rfl rfl ?_
    refine jj_bipush hJ dX5_isFigure_7 bp_57 ?_
    refine jj_icmp_gt hJ 16 dX5_isFigure_9 rfl (fun c2 => ?_) (fun c2 => ?_)
    · replace hF := ip c2 hF
      refine jj_iconst hJ dX5_isFigure_16 ic_0 ?_
      cases Option.some.inj hF
      exact jj_zret hJ (Or.inl rfl) dX5_isFigure_17
    · replace hF := iq c2 hF
      refine jj_iconst hJ dX5_isFigure_12 ic_1 ?_
      refine jj_goto hJ 17 dX5_isFigure_13 rfl ?_
      cases Option.some.inj hF
      exact jj_zret hJ (Or.inr rfl) dX5_isFigure_17
section
def W_X5_figuresAt (cI cS cII : ClassId) (XA : Nat → Nat) (X_c : Nat → Int32) (X_d : Nat → Int32) (X_n : Int32) : va_W := [((XA 0), .inr (5, [.ref (XA 1), .ref (XA 2), .int X_n])), ((XA 1), .inl (cI, 200, .inl X_c)), ((XA 2), .inl (cI, 3, .inl X_d))]
abbrev Rm_X5_figuresAt : Room := { frames := 1, cells := 0, slots := 0, locals := 21 }
variable {l : Launch} {D : va_G} {cI cS cII : ClassId} {XA : Nat → Nat} {A : Nat → Prop} {J : jT}
variable {z_r : Int32}
def p_X5_figuresAt (X_c : Nat → Int32) (X_n : Int32) (a1 : Int32) : Option (Int32) := (p_X5_letterAt X_c X_n a1).bind fun r2 => (p_X5_isFigure r2).bind fun r4 => if r4 = 0 then (some 0) else ((p_X5_letterAt X_c X_n (a1 + 1)).bind fun r7 => (p_X5_isFigure r7).bind fun r9 => if r9 = 0 then (some 1) else (some 2))
end
set_option maxRecDepth 100000 in
theorem c_X5_figuresAt (l : Launch) (D : va_G) (cI cS cII : ClassId) (XA : Nat → Nat) (X_c : Nat → Int32) (X_d : Nat → Int32) (X_n : Int32) (a1 : Int32) {z_r : Int32} (hF : p_X5_figuresAt X_c X_n a1 = some z_r) : MJ l yX5_figuresAt cX5_figuresAt 2 (some .int) Rm_X5_figuresAt D (tysU cI cS cII) [.ref (XA 0), .int a1] (W_X5_figuresAt cI cS cII XA X_c X_d X_n) (some z_r) (W_X5_figuresAt cI cS cII XA X_c X_d X_n) := by
  refine mj_of (own := RX5) (by decide) rfl (Nat.le_of_ble_eq_true rfl) (fun J hJ => ?_)
  show J (W_X5_figuresAt cI cS cII XA X_c X_d X_n) 0 [(0, .ref (XA 0)), (1, .int a1)] []
  unfold p_X5_figuresAt at hF
  refine jj_aload_n hJ dX5_figuresAt_0 0 rfl rfl ?_
  refine jj_iload_n hJ dX5_figuresAt_1 1 rfl rfl ?_
  obtain ⟨r2, h1, hF⟩ := ob hF
  refine jj_callV0 hJ (c_X5_letterAt l D cI cS cII XA X_c X_d X_n a1 h1) dX5_figuresAt_2 kw_81 ⟨Nat.le_of_ble_eq_true rfl, Nat.le_of_ble_eq_true rfl, rfl, rfl⟩ kw_80 kw_82 kw_83 0 rfl rfl rfl rfl (Nat.le_of_ble_eq_true rfl) [0, 1, 2] rfl rfl ?_
  obtain ⟨r4, h3, hF⟩ := ob hF
  refine jj_callS0 hJ (c_X5_isFigure l D cI cS cII   r2 h3) dX5_figuresAt_5 kw_84 ⟨Nat.le_of_ble_eq_true rfl, Nat.le_of_ble_eq_true rfl, rfl, rfl⟩ kw_85 kw_86 rfl rfl (Nat.le_of_ble_eq_true rfl) [] rfl rfl ?_
  refine jj_if_ne hJ 13 dX5_figuresAt_8 rfl (fun c5 => ?_) (fun c5 => ?_)
  · replace hF := iq c5 hF
    refine jj_aload_n hJ dX5_figuresAt_13 0 rfl rfl ?_
    refine jj_iload_n hJ dX5_figuresAt_14 1 rfl rfl ?_
    refine jj_iconst hJ dX5_figuresAt_15 ic_1 ?_
    refine jj_iadd hJ dX5_figuresAt_16 ?_
    obtain ⟨r7, h6, hF⟩ := ob hF
    refine jj_callV0 hJ (c_X5_letterAt l D cI cS cII XA X_c X_d X_n (a1 + 1) h6) dX5_figuresAt_17 kw_81 ⟨Nat.le_of_ble_eq_true rfl, Nat.le_of_ble_eq_true rfl, rfl, rfl⟩ kw_80 kw_82 kw_83 0 rfl rfl rfl rfl (Nat.le_of_ble_eq_true rfl) [0, 1, 2] rfl rfl ?_
    obtain ⟨r9, h8, hF⟩ := ob hF
    refine jj_callS0 hJ (c_X5_isFigure l D cI cS cII   r7 h8) dX5_figuresAt_20 kw_84 ⟨Nat.le_of_ble_eq_true rfl, Nat.le_of_ble_eq_true rfl, rfl, rfl⟩ kw_85 kw_86 rfl rfl (Nat.le_of_ble_eq_true rfl) [] rfl rfl ?_
    refine jj_if_eq hJ 30 dX5_figuresAt_23 rfl (fun c10 => ?_) (fun c10 => ?_)
    · replace hF := ip c10 hF
      refine jj_iconst hJ dX5_figuresAt_30 ic_1 ?_
      cases Option.some.inj hF
      exact jj_iret hJ dX5_figuresAt_31
    · replace hF := iq c10 hF
      refine jj_iconst hJ dX5_figuresAt_26 ic_2 ?_
      refine jj_goto hJ 31 dX5_figuresAt_27 rfl ?_
      cases Option.some.inj hF
      exact jj_iret hJ dX5_figuresAt_31
  · replace hF := ip c5 hF
    refine jj_iconst hJ dX5_figuresAt_11 ic_0 ?_
    cases Option.some.inj hF
    exact jj_iret hJ dX5_figuresAt_12
section
def W_X5_numberAt (cI cS cII : ClassId) (XA : Nat → Nat) (X_c : Nat → Int32) (X_d : Nat → Int32) (X_n : Int32) : va_W := [((XA 0), .inr (5, [.ref (XA 1), .ref (XA 2), .int X_n])), ((XA 1), .inl (cI, 200, .inl X_c)), ((XA 2), .inl (cI, 3, .inl X_d))]
abbrev Rm_X5_numberAt : Room := { frames := 1, cells := 0, slots := 0, locals := 21 }
variable {l : Launch} {D : va_G} {cI cS cII : ClassId} {XA : Nat → Nat} {A : Nat → Prop} {J : jT}
variable {z_r : Int32}
def p_X5_numberAt (X_c : Nat → Int32) (X_n : Int32) (a1 : Int32) (a2 : Int32) : Option (Int32) := (p_X5_letterAt X_c X_n a1).bind fun r2 => if a2 = 1 then (some (r2 - 48)) else ((p_X5_letterAt X_c X_n (a1 + 1)).bind fun r5 => some ((((r2 - 48) * 10) + r5) - 48))
end
set_option maxRecDepth 100000 in
theorem c_X5_numberAt (l : Launch) (D : va_G) (cI cS cII : ClassId) (XA : Nat → Nat) (X_c : Nat → Int32) (X_d : Nat → Int32) (X_n : Int32) (a1 : Int32) (a2 : Int32) {z_r : Int32} (hF : p_X5_numberAt X_c X_n a1 a2 = some z_r) : MJ l yX5_numberAt cX5_numberAt 4 (some .int) Rm_X5_numberAt D (tysU cI cS cII) [.ref (XA 0), .int a1, .int a2] (W_X5_numberAt cI cS cII XA X_c X_d X_n) (some z_r) (W_X5_numberAt cI cS cII XA X_c X_d X_n) := by
  refine mj_of (own := RX5) (by decide) rfl (Nat.le_of_ble_eq_true rfl) (fun J hJ => ?_)
  show J (W_X5_numberAt cI cS cII XA X_c X_d X_n) 0 [(0, .ref (XA 0)), (1, .int a1), (2, .int a2)] []
  unfold p_X5_numberAt at hF
  refine jj_aload_n hJ dX5_numberAt_0 0 rfl rfl ?_
  refine jj_iload_n hJ dX5_numberAt_1 1 rfl rfl ?_
  obtain ⟨r2, h1, hF⟩ := ob hF
  refine jj_callV0 hJ (c_X5_letterAt l D cI cS cII XA X_c X_d X_n a1 h1) dX5_numberAt_2 kw_81 ⟨Nat.le_of_ble_eq_true rfl, Nat.le_of_ble_eq_true rfl, rfl, rfl⟩ kw_80 kw_82 kw_83 0 rfl rfl rfl rfl (Nat.le_of_ble_eq_true rfl) [0, 1, 2] rfl rfl ?_
  refine jj_bipush hJ dX5_numberAt_5 bp_48 ?_
  refine jj_isub hJ dX5_numberAt_7 ?_
  refine jj_istore_n hJ dX5_numberAt_8 rfl (Nat.le_of_ble_eq_true rfl) (lv' := [(3, .int (r2 - 48)), (0, .ref (XA 0)), (1, .int a1), (2, .int a2)]) rfl ?_
  refine jj_iload_n hJ dX5_numberAt_9 3 rfl rfl ?_
  refine jj_iconst hJ dX5_numberAt_10 ic_1 ?_
  refine jj_icmp_ne hJ 18 dX5_numberAt_11 rfl (fun c3 => ?_) (fun c3 => ?_)
  · replace hF := iq c3 hF
    refine jj_iload_n hJ dX5_numberAt_18 0 rfl rfl ?_
    refine jj_bipush hJ dX5_numberAt_19 bp_10 ?_
    refine jj_imul hJ dX5_numberAt_21 ?_
    refine jj_aload_n hJ dX5_numberAt_22 1 rfl rfl ?_
    refine jj_iload_n hJ dX5_numberAt_23 2 rfl rfl ?_
    refine jj_iconst hJ dX5_numberAt_24 ic_1 ?_
    refine jj_iadd hJ dX5_numberAt_25 ?_
    obtain ⟨r5, h4, hF⟩ := ob hF
    refine jj_callV0 hJ (c_X5_letterAt l D cI cS cII XA X_c X_d X_n (a1 + 1) h4) dX5_numberAt_26 kw_81 ⟨Nat.le_of_ble_eq_true rfl, Nat.le_of_ble_eq_true rfl, rfl, rfl⟩ kw_80 kw_82 kw_83 0 rfl rfl rfl rfl (Nat.le_of_ble_eq_true rfl) [0, 1, 2] rfl rfl ?_
    refine jj_iadd hJ dX5_numberAt_29 ?_
    refine jj_bipush hJ dX5_numberAt_30 bp_48 ?_
    refine jj_isub hJ dX5_numberAt_32 ?_
    cases Option.some.inj hF
    exact jj_iret hJ dX5_numberAt_33
  · replace hF := ip c3 hF
    refine jj_iload_n hJ dX5_numberAt_14 0 rfl rfl ?_
    refine jj_goto hJ 33 dX5_numberAt_15 rfl ?_
    cases Option.some.inj hF
    exact jj_iret hJ dX5_numberAt_33
section
def W_X5_readItem (cI cS cII : ClassId) (XA : Nat → Nat) (X_c : Nat → Int32) (X_d : Nat → Int32) (X_n : Int32) : va_W := [((XA 0), .inr (5, [.ref (XA 1), .ref (XA 2), .int X_n])), ((XA 1), .inl (cI, 200, .inl X_c)), ((XA 2), .inl (cI, 3, .inl X_d))]
abbrev Rm_X5_readItem : Room := { frames := 2, cells := 0, slots := 0, locals := 44 }
variable {l : Launch} {D : va_G} {cI cS cII : ClassId} {XA : Nat → Nat} {A : Nat → Prop} {J : jT}
variable {z_r : Int32} {z_X_d : Nat → Int32}
def q_X5_readItem_44 (X_c : Nat → Int32) (X_n : Int32) (a1 : Int32) (k16 : Int32 → Int32 → Int32 → (Nat → Int32) → Option (Int32 × (Nat → Int32))) (v5 : Int32) (v4 : Int32) (v3 : Int32) (v2 : Int32) (s0 : Int32) (X_d : Nat → Int32) : Option (Int32 × (Nat → Int32)) := if v5 = 0 then (some ((-4), X_d)) else ((p_X5_letterAt X_c X_n (v3 + v5)).bind fun r3 => if r3 = s0 then ((p_X5_numberAt X_c X_n v3 v5).bind fun r6 => (wr X_d 3 v4 r6).bind fun g7 => k16 (v4 + 1) (v3 + (v5 + 1)) v2 g7) else (some ((-4), X_d)))
set_option maxRecDepth 100000 in
theorem w_X5_readItem_44 {X_c : Nat → Int32} {X_n : Int32} {a1 : Int32} {k16 : Int32 → Int32 → Int32 → (Nat → Int32) → Option (Int32 × (Nat → Int32))} (hJ : jJ l cX5_readItem 7 D (tysU cI cS cII) RX5 Rm_X5_readItem (some .int) A (some z_r) (W_X5_readItem cI cS cII XA X_c z_X_d X_n) J) (hk16 : ∀ (v4 : Int32) (v3 : Int32) (v2 : Int32) (X_d : Nat → Int32), k16 v4 v3 v2 X_d = some (z_r, z_X_d) → J (W_X5_readItem cI cS cII XA X_c X_d X_n) 16 [(4, .int v4), (3, .int v3), (2, .int v2), (0, .ref (XA 0))] []) : ∀ (v5 : Int32) (v4 : Int32) (v3 : Int32) (v2 : Int32) (s0 : Int32) (X_d : Nat → Int32), q_X5_readItem_44 X_c X_n a1 k16 v5 v4 v3 v2 s0 X_d = some (z_r, z_X_d) → J (W_X5_readItem cI cS cII XA X_c X_d X_n) 44 [(5, .int v5), (4, .int v4), (3, .int v3), (2, .int v2), (0, .ref (XA 0))] [.int s0] := by
  intro v5 v4 v3 v2 s0 X_d hF
  unfold q_X5_readItem_44 at hF
  refine jj_istore hJ dX5_readItem_44 (Nat.le_of_ble_eq_true rfl) (lv' := [(6, .int s0), (5, .int v5), (4, .int v4), (3, .int v3), (2, .int v2), (0, .ref (XA 0))]) rfl ?_
  refine jj_iload hJ dX5_readItem_46 1 rfl ?_
  refine jj_if_eq hJ 64 dX5_readItem_48 rfl (fun c1 => ?_) (fun c1 => ?_)
  · replace hF := ip c1 hF
    refine jj_bipush hJ dX5_readItem_64 bp_m4 ?_
    cases Option.some.inj hF
    exact jj_iret hJ dX5_readItem_66
  · replace hF := iq c1 hF
    refine jj_aload_n hJ dX5_readItem_51 5 rfl rfl ?_
    refine jj_iload_n hJ dX5_readItem_52 3 rfl rfl ?_
    refine jj_iload hJ dX5_readItem_53 1 rfl ?_
    refine jj_iadd hJ dX5_readItem_55 ?_
    obtain ⟨r3, h2, hF⟩ := ob hF
    refine jj_callV0 hJ (c_X5_letterAt l D cI cS cII XA X_c X_d X_n (v3 + v5) h2) dX5_readItem_56 kw_81 ⟨Nat.le_of_ble_eq_true rfl, Nat.le_of_ble_eq_true rfl, rfl, rfl⟩ kw_80 kw_82 kw_83 0 rfl rfl rfl rfl (Nat.le_of_ble_eq_true rfl) [0, 1, 2] rfl rfl ?_
    refine jj_iload hJ dX5_readItem_59 0 rfl ?_
    refine jj_icmp_eq hJ 67 dX5_readItem_61 rfl (fun c4 => ?_) (fun c4 => ?_)
    · replace hF := ip c4 hF
      refine jj_aload_n hJ dX5_readItem_67 5 rfl rfl ?_
      refine jj_get hJ lay_X5 dX5_readItem_68 0 1 rfl rfl (Nat.le_of_ble_eq_true rfl) kw_94 rfl ?_
      refine jj_iload hJ dX5_readItem_71 2 rfl ?_
      refine jj_aload_n hJ dX5_readItem_73 5 rfl rfl ?_
      refine jj_iload_n hJ dX5_readItem_74 3 rfl rfl ?_
      refine jj_iload hJ dX5_readItem_75 1 rfl ?_
      obtain ⟨r6, h5, hF⟩ := ob hF
      refine jj_callV0 hJ (c_X5_numberAt l D cI cS cII XA X_c X_d X_n v3 v5 h5) dX5_readItem_77 kw_96 ⟨Nat.le_of_ble_eq_true rfl, Nat.le_of_ble_eq_true rfl, rfl, rfl⟩ kw_95 kw_97 kw_98 0 rfl rfl rfl rfl (Nat.le_of_ble_eq_true rfl) [0, 1, 2] rfl rfl ?_
      obtain ⟨g7, h8, hF⟩ := ob hF
      refine jj_iast hJ dX5_readItem_80 2 0 rfl rfl h8 (wn := (W_X5_readItem cI cS cII XA X_c g7 X_n)) rfl ?_
      refine jj_iload_n hJ dX5_readItem_81 3 rfl rfl ?_
      refine jj_iload hJ dX5_readItem_82 1 rfl ?_
      refine jj_iconst hJ dX5_readItem_84 ic_1 ?_
      refine jj_iadd hJ dX5_readItem_85 ?_
      refine jj_iadd hJ dX5_readItem_86 ?_
      refine jj_istore_n hJ dX5_readItem_87 rfl (Nat.le_of_ble_eq_true rfl) (lv' := [(3, .int (v3 + (v5 + 1))), (6, .int s0), (5, .int v5), (4, .int v4), (2, .int v2), (0, .ref (XA 0))]) rfl ?_
      refine jj_iinc hJ dX5_readItem_88 3 rfl (v := v4 + 1) (by rw [ic_1]) (Nat.le_of_ble_eq_true rfl) (lv' := [(4, .int (v4 + 1)), (3, .int (v3 + (v5 + 1))), (6, .int s0), (5, .int v5), (2, .int v2), (0, .ref (XA 0))]) rfl ?_
      refine jj_goto hJ 16 dX5_readItem_91 rfl ?_
      refine jj_lv hJ [0, 1, 4, 5] (lv' := [(4, .int (v4 + 1)), (3, .int (v3 + (v5 + 1))), (2, .int v2), (0, .ref (XA 0))]) rfl ?_
      exact hk16 (v4 + 1) (v3 + (v5 + 1)) v2 g7 hF
    · replace hF := iq c4 hF
      refine jj_bipush hJ dX5_readItem_64 bp_m4 ?_
      cases Option.some.inj hF
      exact jj_iret hJ dX5_readItem_66
def q_X5_readItem_16 (X_c : Nat → Int32) (X_n : Int32) (a1 : Int32)  : Nat → Int32 → Int32 → Int32 → (Nat → Int32) → Option (Int32 × (Nat → Int32))
  | 0, _, _, _, _ => none
  | n + 1, v4, v3, v2, X_d => if v2 ≤ v4 then (if v2 = 0 then (some ((-4), X_d)) else (some (v3, X_d))) else ((p_X5_figuresAt X_c X_n v3).bind fun r4 => if v4 = (v2 - 1) then (q_X5_readItem_44 X_c X_n a1 (q_X5_readItem_16 X_c X_n a1 n) r4 v4 v3 v2 59 X_d) else (q_X5_readItem_44 X_c X_n a1 (q_X5_readItem_16 X_c X_n a1 n) r4 v4 v3 v2 44 X_d))
set_option maxRecDepth 100000 in
theorem w_X5_readItem_16 {X_c : Nat → Int32} {X_n : Int32} {a1 : Int32}  (hJ : jJ l cX5_readItem 7 D (tysU cI cS cII) RX5 Rm_X5_readItem (some .int) A (some z_r) (W_X5_readItem cI cS cII XA X_c z_X_d X_n) J)  : ∀ (n : Nat) (v4 : Int32) (v3 : Int32) (v2 : Int32) (X_d : Nat → Int32), q_X5_readItem_16 X_c X_n a1 n v4 v3 v2 X_d = some (z_r, z_X_d) → J (W_X5_readItem cI cS cII XA X_c X_d X_n) 16 [(4, .int v4), (3, .int v3), (2, .int v2), (0, .ref (XA 0))] [] := by
  intro n
  induction n with
  | zero =>
    intro v4 v3 v2 X_d hF
    exact no_some (show (none : Option (Int32 × (Nat → Int32))) = some (z_r, z_X_d) from hF)
  | succ n ih =>
    intro v4 v3 v2 X_d hF
    rw [q_X5_readItem_16.eq_2] at hF
    refine jj_iload hJ dX5_readItem_16 0 rfl ?_
    refine jj_iload_n hJ dX5_readItem_18 2 rfl rfl ?_
    refine jj_icmp_ge hJ 94 dX5_readItem_19 rfl (fun c1 => ?_) (fun c1 => ?_)
    · replace hF := ip c1 hF
      refine jj_iload_n hJ dX5_readItem_94 2 rfl rfl ?_
      refine jj_if_ne hJ 103 dX5_readItem_95 rfl (fun c2 => ?_) (fun c2 => ?_)
      · replace hF := iq c2 hF
        refine jj_iload_n hJ dX5_readItem_103 1 rfl rfl ?_
        cases Option.some.inj hF
        exact jj_iret hJ dX5_readItem_104
      · replace hF := ip c2 hF
        refine jj_bipush hJ dX5_readItem_98 bp_m4 ?_
        refine jj_goto hJ 104 dX5_readItem_100 rfl ?_
        cases Option.some.inj hF
        exact jj_iret hJ dX5_readItem_104
    · replace hF := iq c1 hF
      refine jj_aload_n hJ dX5_readItem_22 3 rfl rfl ?_
      refine jj_iload_n hJ dX5_readItem_23 1 rfl rfl ?_
      obtain ⟨r4, h3, hF⟩ := ob hF
      refine jj_callV0 hJ (c_X5_figuresAt l D cI cS cII XA X_c X_d X_n v3 h3) dX5_readItem_24 kw_91 ⟨Nat.le_of_ble_eq_true rfl, Nat.le_of_ble_eq_true rfl, rfl, rfl⟩ kw_90 kw_92 kw_93 0 rfl rfl rfl rfl (Nat.le_of_ble_eq_true rfl) [0, 1, 2] rfl rfl ?_
      refine jj_istore hJ dX5_readItem_27 (Nat.le_of_ble_eq_true rfl) (lv' := [(5, .int r4), (4, .int v4), (3, .int v3), (2, .int v2), (0, .ref (XA 0))]) rfl ?_
      refine jj_iload hJ dX5_readItem_29 1 rfl ?_
      refine jj_iload_n hJ dX5_readItem_31 3 rfl rfl ?_
      refine jj_iconst hJ dX5_readItem_32 ic_1 ?_
      refine jj_isub hJ dX5_readItem_33 ?_
      refine jj_icmp_ne hJ 42 dX5_readItem_34 rfl (fun c5 => ?_) (fun c5 => ?_)
      · replace hF := iq c5 hF
        refine jj_bipush hJ dX5_readItem_42 bp_44 ?_
        exact w_X5_readItem_44 hJ (fun v4 v3 v2 X_d => ih v4 v3 v2 X_d) r4 v4 v3 v2 44 X_d hF
      · replace hF := ip c5 hF
        refine jj_bipush hJ dX5_readItem_37 bp_59 ?_
        refine jj_goto hJ 44 dX5_readItem_39 rfl ?_
        exact w_X5_readItem_44 hJ (fun v4 v3 v2 X_d => ih v4 v3 v2 X_d) r4 v4 v3 v2 59 X_d hF
def p_X5_readItem (X_c : Nat → Int32) (X_d : Nat → Int32) (X_n : Int32) (a1 : Int32) : Option (Int32 × (Nat → Int32)) := (p_X5_letterAt X_c X_n a1).bind fun r2 => (p_X5_numbersBehind r2).bind fun r4 => q_X5_readItem_16 X_c X_n a1 FU 0 (a1 + 1) r4 X_d
end
set_option maxRecDepth 100000 in
theorem c_X5_readItem (l : Launch) (D : va_G) (cI cS cII : ClassId) (XA : Nat → Nat) (X_c : Nat → Int32) (X_d : Nat → Int32) (X_n : Int32) (a1 : Int32) {z_r : Int32} {z_X_d : Nat → Int32} (hF : p_X5_readItem X_c X_d X_n a1 = some (z_r, z_X_d)) : MJ l yX5_readItem cX5_readItem 7 (some .int) Rm_X5_readItem D (tysU cI cS cII) [.ref (XA 0), .int a1] (W_X5_readItem cI cS cII XA X_c X_d X_n) (some z_r) (W_X5_readItem cI cS cII XA X_c z_X_d X_n) := by
  refine mj_of (own := RX5) (by decide) rfl (Nat.le_of_ble_eq_true rfl) (fun J hJ => ?_)
  show J (W_X5_readItem cI cS cII XA X_c X_d X_n) 0 [(0, .ref (XA 0)), (1, .int a1)] []
  unfold p_X5_readItem at hF
  refine jj_aload_n hJ dX5_readItem_0 0 rfl rfl ?_
  refine jj_iload_n hJ dX5_readItem_1 1 rfl rfl ?_
  obtain ⟨r2, h1, hF⟩ := ob hF
  refine jj_callV0 hJ (c_X5_letterAt l D cI cS cII XA X_c X_d X_n a1 h1) dX5_readItem_2 kw_81 ⟨Nat.le_of_ble_eq_true rfl, Nat.le_of_ble_eq_true rfl, rfl, rfl⟩ kw_80 kw_82 kw_83 0 rfl rfl rfl rfl (Nat.le_of_ble_eq_true rfl) [0, 1, 2] rfl rfl ?_
  obtain ⟨r4, h3, hF⟩ := ob hF
  refine jj_callS0 hJ (c_X5_numbersBehind l D cI cS cII   r2 h3) dX5_readItem_5 kw_87 ⟨Nat.le_of_ble_eq_true rfl, Nat.le_of_ble_eq_true rfl, rfl, rfl⟩ kw_88 kw_89 rfl rfl (Nat.le_of_ble_eq_true rfl) [] rfl rfl ?_
  refine jj_istore_n hJ dX5_readItem_8 rfl (Nat.le_of_ble_eq_true rfl) (lv' := [(2, .int r4), (0, .ref (XA 0)), (1, .int a1)]) rfl ?_
  refine jj_iload_n hJ dX5_readItem_9 2 rfl rfl ?_
  refine jj_iconst hJ dX5_readItem_10 ic_1 ?_
  refine jj_iadd hJ dX5_readItem_11 ?_
  refine jj_istore_n hJ dX5_readItem_12 rfl (Nat.le_of_ble_eq_true rfl) (lv' := [(3, .int (a1 + 1)), (2, .int r4), (0, .ref (XA 0)), (1, .int a1)]) rfl ?_
  refine jj_iconst hJ dX5_readItem_13 ic_0 ?_
  refine jj_istore hJ dX5_readItem_14 (Nat.le_of_ble_eq_true rfl) (lv' := [(4, .int 0), (3, .int (a1 + 1)), (2, .int r4), (0, .ref (XA 0)), (1, .int a1)]) rfl ?_
  refine jj_lv hJ [0, 1, 2, 3] (lv' := [(4, .int 0), (3, .int (a1 + 1)), (2, .int r4), (0, .ref (XA 0))]) rfl ?_
  exact w_X5_readItem_16 hJ  FU 0 (a1 + 1) r4 X_d hF
section
def W_X5_isAllowed (cI cS cII : ClassId) (XA : Nat → Nat) (X_c : Nat → Int32) (X_d : Nat → Int32) (X_n : Int32) : va_W := [((XA 0), .inr (5, [.ref (XA 1), .ref (XA 2), .int X_n])), ((XA 1), .inl (cI, 200, .inl X_c)), ((XA 2), .inl (cI, 3, .inl X_d))]
abbrev Rm_X5_isAllowed : Room := { frames := 0, cells := 0, slots := 0, locals := 0 }
variable {l : Launch} {D : va_G} {cI cS cII : ClassId} {XA : Nat → Nat} {A : Nat → Prop} {J : jT}
variable {z_r : Int32}
def q_X5_isAllowed_71 (X_d : Nat → Int32) (a1 : Int32) (a2 : Int32)  (v3 : Int32) (s0 : Int32) : Option (Int32) := (rd X_d 3 0).bind fun x1 => if a2 ≤ x1 then (some 0) else (if a2 ≤ v3 then (some 0) else ((rd X_d 3 0).bind fun x5 => if x5 = v3 then (some 0) else (if 9 < s0 then (some 0) else (some 1))))
set_option maxRecDepth 100000 in
theorem w_X5_isAllowed_71 {X_c : Nat → Int32} {X_d : Nat → Int32} {X_n : Int32} {a1 : Int32} {a2 : Int32}  (hJ : jJ l cX5_isAllowed 5 D (tysU cI cS cII) RX5 Rm_X5_isAllowed (some .boolean) A (some z_r) (W_X5_isAllowed cI cS cII XA X_c X_d X_n) J)  : ∀ (v3 : Int32) (s0 : Int32), q_X5_isAllowed_71 X_d a1 a2 v3 s0 = some z_r → J (W_X5_isAllowed cI cS cII XA X_c X_d X_n) 71 [(3, .int v3), (0, .ref (XA 0)), (2, .int a2)] [.int s0] := by
  intro v3 s0 hF
  unfold q_X5_isAllowed_71 at hF
  refine jj_istore hJ dX5_isAllowed_71 (Nat.le_of_ble_eq_true rfl) (lv' := [(4, .int s0), (3, .int v3), (0, .ref (XA 0)), (2, .int a2)]) rfl ?_
  refine jj_aload_n hJ dX5_isAllowed_73 2 rfl rfl ?_
  refine jj_get hJ lay_X5 dX5_isAllowed_74 0 1 rfl rfl (Nat.le_of_ble_eq_true rfl) kw_94 rfl ?_
  refine jj_iconst hJ dX5_isAllowed_77 ic_0 ?_
  obtain ⟨x1, h2, hF⟩ := ob hF
  refine jj_iald hJ dX5_isAllowed_78 2 0 rfl rfl h2 ?_
  refine jj_iload_n hJ dX5_isAllowed_79 3 rfl rfl ?_
  refine jj_icmp_ge hJ 109 dX5_isAllowed_80 rfl (fun c3 => ?_) (fun c3 => ?_)
  · replace hF := ip c3 hF
    refine jj_iconst hJ dX5_isAllowed_109 ic_0 ?_
    cases Option.some.inj hF
    exact jj_zret hJ (Or.inl rfl) dX5_isAllowed_110
  · replace hF := iq c3 hF
    refine jj_iload_n hJ dX5_isAllowed_83 1 rfl rfl ?_
    refine jj_iload_n hJ dX5_isAllowed_84 3 rfl rfl ?_
    refine jj_icmp_ge hJ 109 dX5_isAllowed_85 rfl (fun c4 => ?_) (fun c4 => ?_)
    · replace hF := ip c4 hF
      refine jj_iconst hJ dX5_isAllowed_109 ic_0 ?_
      cases Option.some.inj hF
      exact jj_zret hJ (Or.inl rfl) dX5_isAllowed_110
    · replace hF := iq c4 hF
      refine jj_aload_n hJ dX5_isAllowed_88 2 rfl rfl ?_
      refine jj_get hJ lay_X5 dX5_isAllowed_89 0 1 rfl rfl (Nat.le_of_ble_eq_true rfl) kw_94 rfl ?_
      refine jj_iconst hJ dX5_isAllowed_92 ic_0 ?_
      obtain ⟨x5, h6, hF⟩ := ob hF
      refine jj_iald hJ dX5_isAllowed_93 2 0 rfl rfl h6 ?_
      refine jj_iload_n hJ dX5_isAllowed_94 1 rfl rfl ?_
      refine jj_icmp_eq hJ 109 dX5_isAllowed_95 rfl (fun c7 => ?_) (fun c7 => ?_)
      · replace hF := ip c7 hF
        refine jj_iconst hJ dX5_isAllowed_109 ic_0 ?_
        cases Option.some.inj hF
        exact jj_zret hJ (Or.inl rfl) dX5_isAllowed_110
      · replace hF := iq c7 hF
        refine jj_iload hJ dX5_isAllowed_98 0 rfl ?_
        refine jj_bipush hJ dX5_isAllowed_100 bp_9 ?_
        refine jj_icmp_gt hJ 109 dX5_isAllowed_102 rfl (fun c8 => ?_) (fun c8 => ?_)
        · replace hF := ip c8 hF
          refine jj_iconst hJ dX5_isAllowed_109 ic_0 ?_
          cases Option.some.inj hF
          exact jj_zret hJ (Or.inl rfl) dX5_isAllowed_110
        · replace hF := iq c8 hF
          refine jj_iconst hJ dX5_isAllowed_105 ic_1 ?_
          refine jj_goto hJ 110 dX5_isAllowed_106 rfl ?_
          cases Option.some.inj hF
          exact jj_zret hJ (Or.inr rfl) dX5_isAllowed_110
def q_X5_isAllowed_49 (X_d : Nat → Int32) (a1 : Int32) (a2 : Int32)  (s0 : Int32) : Option (Int32) := if a1 = 99 then ((rd X_d 3 1).bind fun x4 => q_X5_isAllowed_71 X_d a1 a2 s0 x4) else ((rd X_d 3 2).bind fun x2 => q_X5_isAllowed_71 X_d a1 a2 s0 x2)
set_option maxRecDepth 100000 in
theorem w_X5_isAllowed_49 {X_c : Nat → Int32} {X_d : Nat → Int32} {X_n : Int32} {a1 : Int32} {a2 : Int32}  (hJ : jJ l cX5_isAllowed 5 D (tysU cI cS cII) RX5 Rm_X5_isAllowed (some .boolean) A (some z_r) (W_X5_isAllowed cI cS cII XA X_c X_d X_n) J)  : ∀ (s0 : Int32), q_X5_isAllowed_49 X_d a1 a2 s0 = some z_r → J (W_X5_isAllowed cI cS cII XA X_c X_d X_n) 49 [(0, .ref (XA 0)), (1, .int a1), (2, .int a2)] [.int s0] := by
  intro s0 hF
  unfold q_X5_isAllowed_49 at hF
  refine jj_istore_n hJ dX5_isAllowed_49 rfl (Nat.le_of_ble_eq_true rfl) (lv' := [(3, .int s0), (0, .ref (XA 0)), (1, .int a1), (2, .int a2)]) rfl ?_
  refine jj_iload_n hJ dX5_isAllowed_50 2 rfl rfl ?_
  refine jj_bipush hJ dX5_isAllowed_51 bp_99 ?_
  refine jj_icmp_ne hJ 65 dX5_isAllowed_53 rfl (fun c1 => ?_) (fun c1 => ?_)
  · replace hF := iq c1 hF
    refine jj_aload_n hJ dX5_isAllowed_65 1 rfl rfl ?_
    refine jj_get hJ lay_X5 dX5_isAllowed_66 0 1 rfl rfl (Nat.le_of_ble_eq_true rfl) kw_94 rfl ?_
    refine jj_iconst hJ dX5_isAllowed_69 ic_2 ?_
    obtain ⟨x2, h3, hF⟩ := ob hF
    refine jj_iald hJ dX5_isAllowed_70 2 0 rfl rfl h3 ?_
    refine jj_lv hJ [0, 1, 3] (lv' := [(3, .int s0), (0, .ref (XA 0)), (2, .int a2)]) rfl ?_
    exact w_X5_isAllowed_71 hJ  s0 x2 hF
  · replace hF := ip c1 hF
    refine jj_aload_n hJ dX5_isAllowed_56 1 rfl rfl ?_
    refine jj_get hJ lay_X5 dX5_isAllowed_57 0 1 rfl rfl (Nat.le_of_ble_eq_true rfl) kw_94 rfl ?_
    refine jj_iconst hJ dX5_isAllowed_60 ic_1 ?_
    obtain ⟨x4, h5, hF⟩ := ob hF
    refine jj_iald hJ dX5_isAllowed_61 2 0 rfl rfl h5 ?_
    refine jj_goto hJ 71 dX5_isAllowed_62 rfl ?_
    refine jj_lv hJ [0, 1, 3] (lv' := [(3, .int s0), (0, .ref (XA 0)), (2, .int a2)]) rfl ?_
    exact w_X5_isAllowed_71 hJ  s0 x4 hF
def p_X5_isAllowed (X_d : Nat → Int32) (a1 : Int32) (a2 : Int32) : Option (Int32) := if a1 = 118 then (if 10 ≤ a2 then (some 0) else ((rd X_d 3 0).bind fun x8 => if 3 < x8 then (some 0) else (some 1))) else (if a1 = 99 then ((rd X_d 3 2).bind fun x5 => q_X5_isAllowed_49 X_d a1 a2 x5) else ((rd X_d 3 1).bind fun x3 => q_X5_isAllowed_49 X_d a1 a2 x3))
end
set_option maxRecDepth 100000 in
theorem c_X5_isAllowed (l : Launch) (D : va_G) (cI cS cII : ClassId) (XA : Nat → Nat) (X_c : Nat → Int32) (X_d : Nat → Int32) (X_n : Int32) (a1 : Int32) (a2 : Int32) {z_r : Int32} (hF : p_X5_isAllowed X_d a1 a2 = some z_r) : MJ l yX5_isAllowed cX5_isAllowed 5 (some .boolean) Rm_X5_isAllowed D (tysU cI cS cII) [.ref (XA 0), .int a1, .int a2] (W_X5_isAllowed cI cS cII XA X_c X_d X_n) (some z_r) (W_X5_isAllowed cI cS cII XA X_c X_d X_n) := by
  refine mj_of (own := RX5) (by decide) rfl (Nat.le_of_ble_eq_true rfl) (fun J hJ => ?_)
  show J (W_X5_isAllowed cI cS cII XA X_c X_d X_n) 0 [(0, .ref (XA 0)), (1, .int a1), (2, .int a2)] []
  unfold p_X5_isAllowed at hF
  refine jj_iload_n hJ dX5_isAllowed_0 1 rfl rfl ?_
  refine jj_bipush hJ dX5_isAllowed_1 bp_118 ?_
  refine jj_icmp_ne hJ 28 dX5_isAllowed_3 rfl (fun c1 => ?_) (fun c1 => ?_)
  · replace hF := iq c1 hF
    refine jj_iload_n hJ dX5_isAllowed_28 1 rfl rfl ?_
    refine jj_bipush hJ dX5_isAllowed_29 bp_99 ?_
    refine jj_icmp_ne hJ 43 dX5_isAllowed_31 rfl (fun c2 => ?_) (fun c2 => ?_)
    · replace hF := iq c2 hF
      refine jj_aload_n hJ dX5_isAllowed_43 0 rfl rfl ?_
      refine jj_get hJ lay_X5 dX5_isAllowed_44 0 1 rfl rfl (Nat.le_of_ble_eq_true rfl) kw_94 rfl ?_
      refine jj_iconst hJ dX5_isAllowed_47 ic_1 ?_
      obtain ⟨x3, h4, hF⟩ := ob hF
      refine jj_iald hJ dX5_isAllowed_48 2 0 rfl rfl h4 ?_
      exact w_X5_isAllowed_49 hJ  x3 hF
    · replace hF := ip c2 hF
      refine jj_aload_n hJ dX5_isAllowed_34 0 rfl rfl ?_
      refine jj_get hJ lay_X5 dX5_isAllowed_35 0 1 rfl rfl (Nat.le_of_ble_eq_true rfl) kw_94 rfl ?_
      refine jj_iconst hJ dX5_isAllowed_38 ic_2 ?_
      obtain ⟨x5, h6, hF⟩ := ob hF
      refine jj_iald hJ dX5_isAllowed_39 2 0 rfl rfl h6 ?_
      refine jj_goto hJ 49 dX5_isAllowed_40 rfl ?_
      exact w_X5_isAllowed_49 hJ  x5 hF
  · replace hF := ip c1 hF
    refine jj_iload_n hJ dX5_isAllowed_6 2 rfl rfl ?_
    refine jj_bipush hJ dX5_isAllowed_7 bp_10 ?_
    refine jj_icmp_ge hJ 26 dX5_isAllowed_9 rfl (fun c7 => ?_) (fun c7 => ?_)
    · replace hF := ip c7 hF
      refine jj_iconst hJ dX5_isAllowed_26 ic_0 ?_
      cases Option.some.inj hF
      exact jj_zret hJ (Or.inl rfl) dX5_isAllowed_27
    · replace hF := iq c7 hF
      refine jj_aload_n hJ dX5_isAllowed_12 0 rfl rfl ?_
      refine jj_get hJ lay_X5 dX5_isAllowed_13 0 1 rfl rfl (Nat.le_of_ble_eq_true rfl) kw_94 rfl ?_
      refine jj_iconst hJ dX5_isAllowed_16 ic_0 ?_
      obtain ⟨x8, h9, hF⟩ := ob hF
      refine jj_iald hJ dX5_isAllowed_17 2 0 rfl rfl h9 ?_
      refine jj_iconst hJ dX5_isAllowed_18 ic_3 ?_
      refine jj_icmp_gt hJ 26 dX5_isAllowed_19 rfl (fun c10 => ?_) (fun c10 => ?_)
      · replace hF := ip c10 hF
        refine jj_iconst hJ dX5_isAllowed_26 ic_0 ?_
        cases Option.some.inj hF
        exact jj_zret hJ (Or.inl rfl) dX5_isAllowed_27
      · replace hF := iq c10 hF
        refine jj_iconst hJ dX5_isAllowed_22 ic_1 ?_
        refine jj_goto hJ 27 dX5_isAllowed_23 rfl ?_
        cases Option.some.inj hF
        exact jj_zret hJ (Or.inr rfl) dX5_isAllowed_27
section
def W_X5_firstFault (cI cS cII : ClassId) (XA : Nat → Nat) (X_c : Nat → Int32) (X_d : Nat → Int32) (X_n : Int32) : va_W := [((XA 0), .inr (5, [.ref (XA 1), .ref (XA 2), .int X_n])), ((XA 1), .inl (cI, 200, .inl X_c)), ((XA 2), .inl (cI, 3, .inl X_d))]
abbrev Rm_X5_firstFault : Room := { frames := 3, cells := 0, slots := 0, locals := 70 }
variable {l : Launch} {D : va_G} {cI cS cII : ClassId} {XA : Nat → Nat} {A : Nat → Prop} {J : jT}
variable {z_r : Int32} {z_X_d : Nat → Int32}
def q_X5_firstFault_6 (X_c : Nat → Int32) (X_n : Int32)  : Nat → Int32 → Int32 → Int32 → (Nat → Int32) → Option (Int32 × (Nat → Int32))
  | 0, _, _, _, _ => none
  | n + 1, v3, v2, v1, X_d => if 200 ≤ v3 then (some ((-4), X_d)) else (if X_n ≤ v2 then (some ((-4), X_d)) else ((p_X5_readItem X_c X_d X_n v2).bind fun (r4, g5) => if r4 < 0 then (some (v2, g5)) else ((p_X5_letterAt X_c X_n v2).bind fun r8 => (p_X5_isAllowed g5 r8 v1).bind fun r10 => if r10 = 0 then (some (v2, g5)) else ((p_X5_letterAt X_c X_n v2).bind fun r13 => if r13 = 118 then (q_X5_firstFault_6 X_c X_n n (v3 + 1) r4 (v1 + 1) g5) else (q_X5_firstFault_6 X_c X_n n (v3 + 1) r4 v1 g5)))))
set_option maxRecDepth 100000 in
theorem w_X5_firstFault_6 {X_c : Nat → Int32} {X_n : Int32}   (hJ : jJ l cX5_firstFault 5 D (tysU cI cS cII) RX5 Rm_X5_firstFault (some .int) A (some z_r) (W_X5_firstFault cI cS cII XA X_c z_X_d X_n) J)  : ∀ (n : Nat) (v3 : Int32) (v2 : Int32) (v1 : Int32) (X_d : Nat → Int32), q_X5_firstFault_6 X_c X_n n v3 v2 v1 X_d = some (z_r, z_X_d) → J (W_X5_firstFault cI cS cII XA X_c X_d X_n) 6 [(3, .int v3), (2, .int v2), (1, .int v1), (0, .ref (XA 0))] [] := by
  intro n
  induction n with
  | zero =>
    intro v3 v2 v1 X_d hF
    exact no_some (show (none : Option (Int32 × (Nat → Int32))) = some (z_r, z_X_d) from hF)
  | succ n ih =>
    intro v3 v2 v1 X_d hF
    rw [q_X5_firstFault_6.eq_2] at hF
    refine jj_iload_n hJ dX5_firstFault_6 0 rfl rfl ?_
    refine jj_sipush hJ dX5_firstFault_7 sp_200 ?_
    refine jj_icmp_ge hJ 70 dX5_firstFault_10 rfl (fun c1 => ?_) (fun c1 => ?_)
    · replace hF := ip c1 hF
      refine jj_bipush hJ dX5_firstFault_70 bp_m4 ?_
      cases Option.some.inj hF
      exact jj_iret hJ dX5_firstFault_72
    · replace hF := iq c1 hF
      refine jj_iload_n hJ dX5_firstFault_13 1 rfl rfl ?_
      refine jj_aload_n hJ dX5_firstFault_14 3 rfl rfl ?_
      refine jj_get hJ lay_X5 dX5_firstFault_15 0 2 rfl rfl (Nat.le_of_ble_eq_true rfl) kw_78 rfl ?_
      refine jj_icmp_ge hJ 70 dX5_firstFault_18 rfl (fun c2 => ?_) (fun c2 => ?_)
      · replace hF := ip c2 hF
        refine jj_bipush hJ dX5_firstFault_70 bp_m4 ?_
        cases Option.some.inj hF
        exact jj_iret hJ dX5_firstFault_72
      · replace hF := iq c2 hF
        refine jj_aload_n hJ dX5_firstFault_21 3 rfl rfl ?_
        refine jj_iload_n hJ dX5_firstFault_22 1 rfl rfl ?_
        obtain ⟨⟨r4, g5⟩, h3, hF⟩ := ob hF
        refine jj_callV hJ (c_X5_readItem l D cI cS cII XA X_c X_d X_n v2 h3) dX5_firstFault_23 kw_100 ⟨Nat.le_of_ble_eq_true rfl, Nat.le_of_ble_eq_true rfl, rfl, rfl⟩ kw_99 kw_101 kw_102 0 rfl rfl rfl rfl (Nat.le_of_ble_eq_true rfl) [0, 1, 2] rfl rfl (wn := (W_X5_firstFault cI cS cII XA X_c g5 X_n)) (jNew_sel rfl [some 0, some 1, some 2] (by decide +kernel) rfl) ?_
        refine jj_istore hJ dX5_firstFault_26 (Nat.le_of_ble_eq_true rfl) (lv' := [(4, .int r4), (3, .int v3), (2, .int v2), (1, .int v1), (0, .ref (XA 0))]) rfl ?_
        refine jj_iload hJ dX5_firstFault_28 0 rfl ?_
        refine jj_if_lt hJ 46 dX5_firstFault_30 rfl (fun c6 => ?_) (fun c6 => ?_)
        · replace hF := ip c6 hF
          refine jj_iload_n hJ dX5_firstFault_46 2 rfl rfl ?_
          cases Option.some.inj hF
          exact jj_iret hJ dX5_firstFault_47
        · replace hF := iq c6 hF
          refine jj_aload_n hJ dX5_firstFault_33 4 rfl rfl ?_
          refine jj_aload_n hJ dX5_firstFault_34 4 rfl rfl ?_
          refine jj_iload_n hJ dX5_firstFault_35 2 rfl rfl ?_
          obtain ⟨r8, h7, hF⟩ := ob hF
          refine jj_callV0 hJ (c_X5_letterAt l D cI cS cII XA X_c g5 X_n v2 h7) dX5_firstFault_36 kw_81 ⟨Nat.le_of_ble_eq_true rfl, Nat.le_of_ble_eq_true rfl, rfl, rfl⟩ kw_80 kw_82 kw_83 0 rfl rfl rfl rfl (Nat.le_of_ble_eq_true rfl) [0, 1, 2] rfl rfl ?_
          refine jj_iload_n hJ dX5_firstFault_39 3 rfl rfl ?_
          obtain ⟨r10, h9, hF⟩ := ob hF
          refine jj_callV0 hJ (c_X5_isAllowed l D cI cS cII XA X_c g5 X_n r8 v1 h9) dX5_firstFault_40 kw_104 ⟨Nat.le_of_ble_eq_true rfl, Nat.le_of_ble_eq_true rfl, rfl, rfl⟩ kw_103 kw_105 kw_106 0 rfl rfl rfl rfl (Nat.le_of_ble_eq_true rfl) [0, 1, 2] rfl rfl ?_
          refine jj_if_ne hJ 48 dX5_firstFault_43 rfl (fun c11 => ?_) (fun c11 => ?_)
          · replace hF := iq c11 hF
            refine jj_aload_n hJ dX5_firstFault_48 4 rfl rfl ?_
            refine jj_iload_n hJ dX5_firstFault_49 2 rfl rfl ?_
            obtain ⟨r13, h12, hF⟩ := ob hF
            refine jj_callV0 hJ (c_X5_letterAt l D cI cS cII XA X_c g5 X_n v2 h12) dX5_firstFault_50 kw_81 ⟨Nat.le_of_ble_eq_true rfl, Nat.le_of_ble_eq_true rfl, rfl, rfl⟩ kw_80 kw_82 kw_83 0 rfl rfl rfl rfl (Nat.le_of_ble_eq_true rfl) [0, 1, 2] rfl rfl ?_
            refine jj_bipush hJ dX5_firstFault_53 bp_118 ?_
            refine jj_icmp_ne hJ 61 dX5_firstFault_55 rfl (fun c14 => ?_) (fun c14 => ?_)
            · replace hF := iq c14 hF
              refine jj_iload hJ dX5_firstFault_61 0 rfl ?_
              refine jj_istore_n hJ dX5_firstFault_63 rfl (Nat.le_of_ble_eq_true rfl) (lv' := [(2, .int r4), (4, .int r4), (3, .int v3), (1, .int v1), (0, .ref (XA 0))]) rfl ?_
              refine jj_iinc hJ dX5_firstFault_64 2 rfl (v := v3 + 1) (by rw [ic_1]) (Nat.le_of_ble_eq_true rfl) (lv' := [(3, .int (v3 + 1)), (2, .int r4), (4, .int r4), (1, .int v1), (0, .ref (XA 0))]) rfl ?_
              refine jj_goto hJ 6 dX5_firstFault_67 rfl ?_
              refine jj_lv hJ [0, 1, 3, 4] (lv' := [(3, .int (v3 + 1)), (2, .int r4), (1, .int v1), (0, .ref (XA 0))]) rfl ?_
              exact ih (v3 + 1) r4 v1 g5 hF
            · replace hF := ip c14 hF
              refine jj_iinc hJ dX5_firstFault_58 3 rfl (v := v1 + 1) (by rw [ic_1]) (Nat.le_of_ble_eq_true rfl) (lv' := [(1, .int (v1 + 1)), (4, .int r4), (3, .int v3), (2, .int v2), (0, .ref (XA 0))]) rfl ?_
              refine jj_iload hJ dX5_firstFault_61 1 rfl ?_
              refine jj_istore_n hJ dX5_firstFault_63 rfl (Nat.le_of_ble_eq_true rfl) (lv' := [(2, .int r4), (1, .int (v1 + 1)), (4, .int r4), (3, .int v3), (0, .ref (XA 0))]) rfl ?_
              refine jj_iinc hJ dX5_firstFault_64 3 rfl (v := v3 + 1) (by rw [ic_1]) (Nat.le_of_ble_eq_true rfl) (lv' := [(3, .int (v3 + 1)), (2, .int r4), (1, .int (v1 + 1)), (4, .int r4), (0, .ref (XA 0))]) rfl ?_
              refine jj_goto hJ 6 dX5_firstFault_67 rfl ?_
              refine jj_lv hJ [0, 1, 2, 4] (lv' := [(3, .int (v3 + 1)), (2, .int r4), (1, .int (v1 + 1)), (0, .ref (XA 0))]) rfl ?_
              exact ih (v3 + 1) r4 (v1 + 1) g5 hF
          · replace hF := ip c11 hF
            refine jj_iload_n hJ dX5_firstFault_46 2 rfl rfl ?_
            cases Option.some.inj hF
            exact jj_iret hJ dX5_firstFault_47
def p_X5_firstFault (X_c : Nat → Int32) (X_d : Nat → Int32) (X_n : Int32) : Option (Int32 × (Nat → Int32)) := q_X5_firstFault_6 X_c X_n FU 0 0 0 X_d
end
set_option maxRecDepth 100000 in
theorem c_X5_firstFault (l : Launch) (D : va_G) (cI cS cII : ClassId) (XA : Nat → Nat) (X_c : Nat → Int32) (X_d : Nat → Int32) (X_n : Int32)  {z_r : Int32} {z_X_d : Nat → Int32} (hF : p_X5_firstFault X_c X_d X_n = some (z_r, z_X_d)) : MJ l yX5_firstFault cX5_firstFault 5 (some .int) Rm_X5_firstFault D (tysU cI cS cII) [.ref (XA 0)] (W_X5_firstFault cI cS cII XA X_c X_d X_n) (some z_r) (W_X5_firstFault cI cS cII XA X_c z_X_d X_n) := by
  refine mj_of (own := RX5) (by decide) rfl (Nat.le_of_ble_eq_true rfl) (fun J hJ => ?_)
  show J (W_X5_firstFault cI cS cII XA X_c X_d X_n) 0 [(0, .ref (XA 0))] []
  unfold p_X5_firstFault at hF
  refine jj_iconst hJ dX5_firstFault_0 ic_0 ?_
  refine jj_istore_n hJ dX5_firstFault_1 rfl (Nat.le_of_ble_eq_true rfl) (lv' := [(1, .int 0), (0, .ref (XA 0))]) rfl ?_
  refine jj_iconst hJ dX5_firstFault_2 ic_0 ?_
  refine jj_istore_n hJ dX5_firstFault_3 rfl (Nat.le_of_ble_eq_true rfl) (lv' := [(2, .int 0), (1, .int 0), (0, .ref (XA 0))]) rfl ?_
  refine jj_iconst hJ dX5_firstFault_4 ic_0 ?_
  refine jj_istore_n hJ dX5_firstFault_5 rfl (Nat.le_of_ble_eq_true rfl) (lv' := [(3, .int 0), (2, .int 0), (1, .int 0), (0, .ref (XA 0))]) rfl ?_
  exact w_X5_firstFault_6 hJ  FU 0 0 0 X_d hF
