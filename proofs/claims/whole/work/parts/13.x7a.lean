theorem kw_134 : Cond.fieldLink RX7 63 (TX7 3).1 (TX7 3).2.1 (TX7 3).2.2.1 ∈ lw_tbl := tb3 (i := 177) rfl
theorem kw_135 : Cond.fieldLink RX7 67 (TX7 4).1 (TX7 4).2.1 (TX7 4).2.2.1 ∈ lw_tbl := tb3 (i := 178) rfl
theorem kw_136 : Cond.fieldLink RX7 16 (TX7 6).1 (TX7 6).2.1 (TX7 6).2.2.1 ∈ lw_tbl := tb3 (i := 180) rfl
theorem ic_4 : Int32.ofInt (4) = (4 : Int32) := by decide
theorem kw_137 : Cond.fieldLink RX7 13 (TX7 5).1 (TX7 5).2.1 (TX7 5).2.2.1 ∈ lw_tbl := tb3 (i := 179) rfl
theorem kw_138 : Cond.constantLong RX7 70 (32) ∈ lw_tbl := tb4 (i := 11) rfl
theorem kw_139 : Cond.constantLong RX7 72 (126) ∈ lw_tbl := tb4 (i := 12) rfl
theorem kw_140 : cwOk yX7_in cX7_in 6 (some .boolean) 3 := ⟨tb4 (i := 15) rfl, tb1 (i := 15) rfl, by decide, by decide, by decide +kernel⟩
theorem kw_141 : Cond.methodLink RX7 74 yX7_in ∈ lw_tbl := tb4 (i := 13) rfl
theorem kw_142 : Cond.static yX7_in ∈ lw_tbl := tb4 (i := 14) rfl
theorem kw_143 : Cond.fieldLink RX7 78 (TX7 0).1 (TX7 0).2.1 (TX7 0).2.2.1 ∈ lw_tbl := tb3 (i := 174) rfl
theorem kw_144 : Cond.fieldLink RX7 7 (TX7 1).1 (TX7 1).2.1 (TX7 1).2.2.1 ∈ lw_tbl := tb3 (i := 175) rfl
theorem bp_m3 : (Int8.ofInt (-3)).toInt32 = (-3 : Int32) := by decide
theorem kw_145 : Cond.fieldLink RX7 81 (TX7 19).1 (TX7 19).2.1 (TX7 19).2.2.1 ∈ lw_tbl := tb3 (i := 193) rfl
theorem kw_146 : Cond.methodLink RX7 84 yX7_letterAt ∈ lw_tbl := tb4 (i := 32) rfl
theorem kw_147 : cwOk yX7_letterAt cX7_letterAt 2 (some .int) 1 := ⟨tb4 (i := 35) rfl, tb1 (i := 15) rfl, by decide, by decide, by decide +kernel⟩
theorem kw_148 : Cond.instanceMethod yX7_letterAt ∈ lw_tbl := tb4 (i := 34) rfl
theorem kw_149 : Cond.selects RX7 yX7_letterAt yX7_letterAt ∈ lw_tbl := tsel (i := 62) (q := (⟨"UniverseLevelsModel", "letterAt", "(I)I"⟩, 24)) rfl
theorem kw_150 : Cond.constantLong RX7 88 (48) ∈ lw_tbl := tb4 (i := 40) rfl
theorem kw_151 : Cond.constantLong RX7 90 (57) ∈ lw_tbl := tb4 (i := 41) rfl
theorem lc_1 : Int64.ofNat (1) = (1 : Int64) := by decide
theorem kw_152 : Cond.constantLong RX7 92 (2) ∈ lw_tbl := tb4 (i := 42) rfl
theorem kw_153 : Cond.fieldLink RX7 37 (TX7 20).1 (TX7 20).2.1 (TX7 20).2.2.1 ∈ lw_tbl := tb3 (i := 194) rfl
theorem bp_100 : (Int8.ofInt (100)).toInt32 = (100 : Int32) := by decide
theorem kw_154 : Cond.methodLink RX7 94 yX7_numbers ∈ lw_tbl := tb4 (i := 36) rfl
theorem kw_155 : cwOk yX7_numbers cX7_numbers 5 (some .boolean) 1 := ⟨tb4 (i := 39) rfl, tb1 (i := 15) rfl, by decide, by decide, by decide +kernel⟩
theorem kw_156 : Cond.instanceMethod yX7_numbers ∈ lw_tbl := tb4 (i := 38) rfl
theorem kw_157 : Cond.selects RX7 yX7_numbers yX7_numbers ∈ lw_tbl := tsel (i := 63) (q := (⟨"UniverseLevelsModel", "numbers", "(I)Z"⟩, 24)) rfl
theorem kw_158 : Cond.methodLink RX7 52 yX7_levelIs ∈ lw_tbl := tb3 (i := 127) rfl
theorem kw_159 : cwOk yX7_levelIs cX7_levelIs 2 none 1 := ⟨tb3 (i := 130) rfl, tb1 (i := 15) rfl, by decide, by decide, by decide +kernel⟩
theorem kw_160 : Cond.instanceMethod yX7_levelIs ∈ lw_tbl := tb3 (i := 129) rfl
theorem kw_161 : Cond.selects RX7 yX7_levelIs yX7_levelIs ∈ lw_tbl := tsel (i := 51) (q := (⟨"UniverseLevelsModel", "levelIs", "(I)V"⟩, 24)) rfl
theorem kw_162 : Cond.methodLink RX7 56 yX7_askedIs ∈ lw_tbl := tb3 (i := 131) rfl
theorem kw_163 : cwOk yX7_askedIs cX7_askedIs 5 none 3 := ⟨tb3 (i := 134) rfl, tb1 (i := 15) rfl, by decide, by decide, by decide +kernel⟩
theorem kw_164 : Cond.instanceMethod yX7_askedIs ∈ lw_tbl := tb3 (i := 133) rfl
theorem kw_165 : Cond.selects RX7 yX7_askedIs yX7_askedIs ∈ lw_tbl := tsel (i := 52) (q := (⟨"UniverseLevelsModel", "askedIs", "(III)V"⟩, 24)) rfl
theorem kw_166 : Cond.methodLink RX7 49 yX7_readNone ∈ lw_tbl := tb3 (i := 123) rfl
theorem kw_167 : cwOk yX7_readNone cX7_readNone 1 none 0 := ⟨tb3 (i := 126) rfl, tb1 (i := 15) rfl, by decide, by decide, by decide +kernel⟩
theorem kw_168 : Cond.instanceMethod yX7_readNone ∈ lw_tbl := tb3 (i := 125) rfl
theorem kw_169 : Cond.selects RX7 yX7_readNone yX7_readNone ∈ lw_tbl := tsel (i := 50) (q := (⟨"UniverseLevelsModel", "readNone", "()V"⟩, 24)) rfl
theorem kw_170 : Cond.methodLink RX7 98 yX7_item ∈ lw_tbl := tb4 (i := 28) rfl
theorem kw_171 : cwOk yX7_item cX7_item 5 (some .boolean) 0 := ⟨tb4 (i := 31) rfl, tb1 (i := 15) rfl, by decide, by decide, by decide +kernel⟩
theorem kw_172 : Cond.instanceMethod yX7_item ∈ lw_tbl := tb4 (i := 30) rfl
theorem kw_173 : Cond.selects RX7 yX7_item yX7_item ∈ lw_tbl := tsel (i := 61) (q := (⟨"UniverseLevelsModel", "item", "()Z"⟩, 24)) rfl
theorem kw_174 : Cond.methodLink RX7 102 yX7_readAll ∈ lw_tbl := tb4 (i := 24) rfl
theorem kw_175 : cwOk yX7_readAll cX7_readAll 2 (some .int) 0 := ⟨tb4 (i := 27) rfl, tb1 (i := 15) rfl, by decide, by decide, by decide +kernel⟩
theorem kw_176 : Cond.instanceMethod yX7_readAll ∈ lw_tbl := tb4 (i := 26) rfl
theorem kw_177 : Cond.selects RX7 yX7_readAll yX7_readAll ∈ lw_tbl := tsel (i := 60) (q := (⟨"UniverseLevelsModel", "readAll", "()I"⟩, 24)) rfl
theorem kw_178 : Cond.fieldLink RX7 19 (TX7 7).1 (TX7 7).2.1 (TX7 7).2.2.1 ∈ lw_tbl := tb3 (i := 181) rfl
theorem kw_179 : Cond.constant RX7 135 (-50000) ∈ lw_tbl := tb3 (i := 162) rfl
theorem kw_180 : Cond.fieldLink RX7 43 (TX7 22).1 (TX7 22).2.1 (TX7 22).2.2.1 ∈ lw_tbl := tb3 (i := 196) rfl
theorem kw_181 : Cond.constant RX7 136 (-100000) ∈ lw_tbl := tb3 (i := 155) rfl
theorem bp_11 : (Int8.ofInt (11)).toInt32 = (11 : Int32) := by decide
theorem bp_27 : (Int8.ofInt (27)).toInt32 = (27 : Int32) := by decide
theorem kw_182 : cwOk yX7_has cX7_has 2 (some .boolean) 2 := ⟨tb3 (i := 158) rfl, tb1 (i := 15) rfl, by decide, by decide, by decide +kernel⟩
theorem kw_183 : Cond.methodLink RX7 137 yX7_has ∈ lw_tbl := tb3 (i := 156) rfl
theorem kw_184 : Cond.static yX7_has ∈ lw_tbl := tb3 (i := 157) rfl
theorem bp_43 : (Int8.ofInt (43)).toInt32 = (43 : Int32) := by decide
theorem kw_185 : Cond.fieldLink RX7 40 (TX7 21).1 (TX7 21).2.1 (TX7 21).2.2.1 ∈ lw_tbl := tb3 (i := 195) rfl
theorem kw_186 : Cond.fieldLink RX7 106 (TX7 2).1 (TX7 2).2.1 (TX7 2).2.2.1 ∈ lw_tbl := tb3 (i := 176) rfl
theorem kw_187 : cwOk yX7_isWay cX7_isWay 1 (some .boolean) 1 := ⟨tb3 (i := 161) rfl, tb1 (i := 15) rfl, by decide, by decide, by decide +kernel⟩
theorem kw_188 : Cond.methodLink RX7 141 yX7_isWay ∈ lw_tbl := tb3 (i := 159) rfl
theorem kw_189 : Cond.static yX7_isWay ∈ lw_tbl := tb3 (i := 160) rfl
section
abbrev Rm_X7_in : Room := { frames := 0, cells := 0, slots := 0, locals := 0 }
variable {l : Launch} {D : va_G} {cI cS cII : ClassId}  {A : Nat → Prop} {J : jT}
variable {z_r : Int32}
def p_X7_in (a0 : Int64) (a2 : Int64) (a4 : Int64) : Option (Int32) := if (lg_cmp a0 a2) < 0 then (some 0) else (if 0 < (lg_cmp a0 a4) then (some 0) else (some 1))
end
set_option maxRecDepth 100000 in
theorem c_X7_in (l : Launch) (D : va_G) (cI cS cII : ClassId)   (a0 : Int64) (a2 : Int64) (a4 : Int64) {z_r : Int32} (hF : p_X7_in a0 a2 a4 = some z_r) : MJ l yX7_in cX7_in 6 (some .boolean) Rm_X7_in D (tysU cI cS cII) [.long a0, .long a2, .long a4] ([] : va_W) (some z_r) ([] : va_W) := by
  refine mj_of (own := RX7) (by decide) rfl (Nat.le_of_ble_eq_true rfl) (fun J hJ => ?_)
  show J ([] : va_W) 0 [(0, .long a0), (2, .long a2), (4, .long a4)] []
  unfold p_X7_in at hF
  refine jj_lload_n hJ dX7_in_0 0 rfl rfl ?_
  refine jj_lload_n hJ dX7_in_1 1 rfl rfl ?_
  refine jj_lcmp hJ dX7_in_2 ?_
  refine jj_if_lt hJ 17 dX7_in_3 rfl (fun c1 => ?_) (fun c1 => ?_)
  · replace hF := ip c1 hF
    refine jj_iconst hJ dX7_in_17 ic_0 ?_
    cases Option.some.inj hF
    exact jj_zret hJ (Or.inl rfl) dX7_in_18
  · replace hF := iq c1 hF
    refine jj_lload_n hJ dX7_in_6 0 rfl rfl ?_
    refine jj_lload hJ dX7_in_7 2 rfl ?_
    refine jj_lcmp hJ dX7_in_9 ?_
    refine jj_if_gt hJ 17 dX7_in_10 rfl (fun c2 => ?_) (fun c2 => ?_)
    · replace hF := ip c2 hF
      refine jj_iconst hJ dX7_in_17 ic_0 ?_
      cases Option.some.inj hF
      exact jj_zret hJ (Or.inl rfl) dX7_in_18
    · replace hF := iq c2 hF
      refine jj_iconst hJ dX7_in_13 ic_1 ?_
      refine jj_goto hJ 18 dX7_in_14 rfl ?_
      cases Option.some.inj hF
      exact jj_zret hJ (Or.inr rfl) dX7_in_18
section
abbrev Rm_X7_has : Room := { frames := 0, cells := 0, slots := 0, locals := 0 }
variable {l : Launch} {D : va_G} {cI cS cII : ClassId}  {A : Nat → Prop} {J : jT}
variable {z_r : Int32}
def p_X7_has (a0 : Int32) (a1 : Int32) : Option (Int32) := if ((a0 >>> (a1 &&& 31)) &&& 1) = 1 then (some 1) else (some 0)
end
set_option maxRecDepth 100000 in
theorem c_X7_has (l : Launch) (D : va_G) (cI cS cII : ClassId)   (a0 : Int32) (a1 : Int32) {z_r : Int32} (hF : p_X7_has a0 a1 = some z_r) : MJ l yX7_has cX7_has 2 (some .boolean) Rm_X7_has D (tysU cI cS cII) [.int a0, .int a1] ([] : va_W) (some z_r) ([] : va_W) := by
  refine mj_of (own := RX7) (by decide) rfl (Nat.le_of_ble_eq_true rfl) (fun J hJ => ?_)
  show J ([] : va_W) 0 [(0, .int a0), (1, .int a1)] []
  unfold p_X7_has at hF
  refine jj_iload_n hJ dX7_has_0 0 rfl rfl ?_
  refine jj_iload_n hJ dX7_has_1 1 rfl rfl ?_
  refine jj_ishr hJ dX7_has_2 ?_
  refine jj_iconst hJ dX7_has_3 ic_1 ?_
  refine jj_iand hJ dX7_has_4 ?_
  refine jj_iconst hJ dX7_has_5 ic_1 ?_
  refine jj_icmp_ne hJ 13 dX7_has_6 rfl (fun c1 => ?_) (fun c1 => ?_)
  · replace hF := iq c1 hF
    refine jj_iconst hJ dX7_has_13 ic_0 ?_
    cases Option.some.inj hF
    exact jj_zret hJ (Or.inl rfl) dX7_has_14
  · replace hF := ip c1 hF
    refine jj_iconst hJ dX7_has_9 ic_1 ?_
    refine jj_goto hJ 14 dX7_has_10 rfl ?_
    cases Option.some.inj hF
    exact jj_zret hJ (Or.inr rfl) dX7_has_14
section
def W_X7_readNone (cI cS cII : ClassId) (DA : Nat → Nat) (D_length : Int32) (D_text : Nat → Int32) (D_levels : Int32) (D_readLevels : Int32) (D_readAsked : Int32) (D_asked : Nat → Int32) (D_readKinds : Nat → Int32) (D_now : Nat → Int32) (D_before : Nat → Int32) (D_undoMany : Int32) (D_kept : Nat → Int32) (D_keptMany : Int32) (D_refused : Int32) (D_roundMany : Int32) (D_roundOver : Int32) (D_round : Nat → Int32) (D_terms : Int32) (D_termLevel : Nat → Int32) (D_termAdd : Nat → Int32) (D_spot : Int32) (D_number : Nat → Int32) (D_reach : Nat → Int32) (D_edge : Nat → Int32) (D_by : Nat → Int32) : va_W := [((DA 0), .inr (7, [.int D_length, .ref (DA 1), .int D_levels, .int D_readLevels, .int D_readAsked, .ref (DA 2), .ref (DA 3), .ref (DA 4), .ref (DA 5), .int D_undoMany, .ref (DA 6), .int D_keptMany, .int D_refused, .int D_roundMany, .int D_roundOver, .ref (DA 7), .int D_terms, .ref (DA 8), .ref (DA 9), .int D_spot, .ref (DA 10), .ref (DA 11), .ref (DA 12), .ref (DA 13)])), ((DA 1), .inl (cI, 200, .inl D_text)), ((DA 2), .inl (cI, 160, .inl D_asked)), ((DA 3), .inl (cI, 10, .inl D_readKinds)), ((DA 4), .inl (cI, 59, .inl D_now)), ((DA 5), .inl (cI, 472, .inl D_before)), ((DA 6), .inl (cI, 118, .inl D_kept)), ((DA 7), .inl (cI, 12, .inl D_round)), ((DA 8), .inl (cI, 6, .inl D_termLevel)), ((DA 9), .inl (cI, 6, .inl D_termAdd)), ((DA 10), .inl (cI, 3, .inl D_number)), ((DA 11), .inl (cI, 100, .inl D_reach)), ((DA 12), .inl (cI, 100, .inl D_edge)), ((DA 13), .inl (cI, 110, .inl D_by))]
abbrev Rm_X7_readNone : Room := { frames := 0, cells := 0, slots := 0, locals := 0 }
variable {l : Launch} {D : va_G} {cI cS cII : ClassId} {DA : Nat → Nat} {A : Nat → Prop} {J : jT}
variable {z_D_readLevels : Int32} {z_D_readAsked : Int32}
def p_X7_readNone (D_readLevels : Int32) (D_readAsked : Int32) : Option (Int32 × Int32) := some (0, 0)
end
set_option maxRecDepth 100000 in
theorem c_X7_readNone (l : Launch) (D : va_G) (cI cS cII : ClassId) (DA : Nat → Nat) (D_length : Int32) (D_text : Nat → Int32) (D_levels : Int32) (D_readLevels : Int32) (D_readAsked : Int32) (D_asked : Nat → Int32) (D_readKinds : Nat → Int32) (D_now : Nat → Int32) (D_before : Nat → Int32) (D_undoMany : Int32) (D_kept : Nat → Int32) (D_keptMany : Int32) (D_refused : Int32) (D_roundMany : Int32) (D_roundOver : Int32) (D_round : Nat → Int32) (D_terms : Int32) (D_termLevel : Nat → Int32) (D_termAdd : Nat → Int32) (D_spot : Int32) (D_number : Nat → Int32) (D_reach : Nat → Int32) (D_edge : Nat → Int32) (D_by : Nat → Int32)  {z_D_readLevels : Int32} {z_D_readAsked : Int32} (hF : p_X7_readNone D_readLevels D_readAsked = some (z_D_readLevels, z_D_readAsked)) : MJ l yX7_readNone cX7_readNone 1 none Rm_X7_readNone D (tysU cI cS cII) [.ref (DA 0)] (W_X7_readNone cI cS cII DA D_length D_text D_levels D_readLevels D_readAsked D_asked D_readKinds D_now D_before D_undoMany D_kept D_keptMany D_refused D_roundMany D_roundOver D_round D_terms D_termLevel D_termAdd D_spot D_number D_reach D_edge D_by) none (W_X7_readNone cI cS cII DA D_length D_text D_levels z_D_readLevels z_D_readAsked D_asked D_readKinds D_now D_before D_undoMany D_kept D_keptMany D_refused D_roundMany D_roundOver D_round D_terms D_termLevel D_termAdd D_spot D_number D_reach D_edge D_by) := by
  refine mj_of (own := RX7) (by decide) rfl (Nat.le_of_ble_eq_true rfl) (fun J hJ => ?_)
  show J (W_X7_readNone cI cS cII DA D_length D_text D_levels D_readLevels D_readAsked D_asked D_readKinds D_now D_before D_undoMany D_kept D_keptMany D_refused D_roundMany D_roundOver D_round D_terms D_termLevel D_termAdd D_spot D_number D_reach D_edge D_by) 0 [(0, .ref (DA 0))] []
  unfold p_X7_readNone at hF
  refine jj_aload_n hJ dX7_readNone_0 0 rfl rfl ?_
  refine jj_iconst hJ dX7_readNone_1 ic_0 ?_
  refine jj_puti hJ lay_X7 tyX7 tyX7_ok nmX7 dX7_readNone_2 0 3 rfl rfl (Nat.le_of_ble_eq_true rfl) kw_134 rfl rfl (Nat.le_of_ble_eq_true rfl) (wn := (W_X7_readNone cI cS cII DA D_length D_text D_levels 0 D_readAsked D_asked D_readKinds D_now D_before D_undoMany D_kept D_keptMany D_refused D_roundMany D_roundOver D_round D_terms D_termLevel D_termAdd D_spot D_number D_reach D_edge D_by)) rfl ?_
  refine jj_aload_n hJ dX7_readNone_5 0 rfl rfl ?_
  refine jj_iconst hJ dX7_readNone_6 ic_0 ?_
  refine jj_puti hJ lay_X7 tyX7 tyX7_ok nmX7 dX7_readNone_7 0 4 rfl rfl (Nat.le_of_ble_eq_true rfl) kw_135 rfl rfl (Nat.le_of_ble_eq_true rfl) (wn := (W_X7_readNone cI cS cII DA D_length D_text D_levels 0 0 D_asked D_readKinds D_now D_before D_undoMany D_kept D_keptMany D_refused D_roundMany D_roundOver D_round D_terms D_termLevel D_termAdd D_spot D_number D_reach D_edge D_by)) rfl ?_
  cases Option.some.inj hF
  exact jj_vret hJ dX7_readNone_10
section
def W_X7_levelIs (cI cS cII : ClassId) (DA : Nat → Nat) (D_length : Int32) (D_text : Nat → Int32) (D_levels : Int32) (D_readLevels : Int32) (D_readAsked : Int32) (D_asked : Nat → Int32) (D_readKinds : Nat → Int32) (D_now : Nat → Int32) (D_before : Nat → Int32) (D_undoMany : Int32) (D_kept : Nat → Int32) (D_keptMany : Int32) (D_refused : Int32) (D_roundMany : Int32) (D_roundOver : Int32) (D_round : Nat → Int32) (D_terms : Int32) (D_termLevel : Nat → Int32) (D_termAdd : Nat → Int32) (D_spot : Int32) (D_number : Nat → Int32) (D_reach : Nat → Int32) (D_edge : Nat → Int32) (D_by : Nat → Int32) : va_W := [((DA 0), .inr (7, [.int D_length, .ref (DA 1), .int D_levels, .int D_readLevels, .int D_readAsked, .ref (DA 2), .ref (DA 3), .ref (DA 4), .ref (DA 5), .int D_undoMany, .ref (DA 6), .int D_keptMany, .int D_refused, .int D_roundMany, .int D_roundOver, .ref (DA 7), .int D_terms, .ref (DA 8), .ref (DA 9), .int D_spot, .ref (DA 10), .ref (DA 11), .ref (DA 12), .ref (DA 13)])), ((DA 1), .inl (cI, 200, .inl D_text)), ((DA 2), .inl (cI, 160, .inl D_asked)), ((DA 3), .inl (cI, 10, .inl D_readKinds)), ((DA 4), .inl (cI, 59, .inl D_now)), ((DA 5), .inl (cI, 472, .inl D_before)), ((DA 6), .inl (cI, 118, .inl D_kept)), ((DA 7), .inl (cI, 12, .inl D_round)), ((DA 8), .inl (cI, 6, .inl D_termLevel)), ((DA 9), .inl (cI, 6, .inl D_termAdd)), ((DA 10), .inl (cI, 3, .inl D_number)), ((DA 11), .inl (cI, 100, .inl D_reach)), ((DA 12), .inl (cI, 100, .inl D_edge)), ((DA 13), .inl (cI, 110, .inl D_by))]
abbrev Rm_X7_levelIs : Room := { frames := 0, cells := 0, slots := 0, locals := 0 }
variable {l : Launch} {D : va_G} {cI cS cII : ClassId} {DA : Nat → Nat} {A : Nat → Prop} {J : jT}
variable {z_D_readLevels : Int32} {z_D_readKinds : Nat → Int32}
def p_X7_levelIs (D_readLevels : Int32) (D_readKinds : Nat → Int32) (a1 : Int32) : Option (Int32 × (Nat → Int32)) := (wr D_readKinds 10 D_readLevels a1).bind fun g1 => some (D_readLevels + 1, g1)
end
set_option maxRecDepth 100000 in
theorem c_X7_levelIs (l : Launch) (D : va_G) (cI cS cII : ClassId) (DA : Nat → Nat) (D_length : Int32) (D_text : Nat → Int32) (D_levels : Int32) (D_readLevels : Int32) (D_readAsked : Int32) (D_asked : Nat → Int32) (D_readKinds : Nat → Int32) (D_now : Nat → Int32) (D_before : Nat → Int32) (D_undoMany : Int32) (D_kept : Nat → Int32) (D_keptMany : Int32) (D_refused : Int32) (D_roundMany : Int32) (D_roundOver : Int32) (D_round : Nat → Int32) (D_terms : Int32) (D_termLevel : Nat → Int32) (D_termAdd : Nat → Int32) (D_spot : Int32) (D_number : Nat → Int32) (D_reach : Nat → Int32) (D_edge : Nat → Int32) (D_by : Nat → Int32) (a1 : Int32) {z_D_readLevels : Int32} {z_D_readKinds : Nat → Int32} (hF : p_X7_levelIs D_readLevels D_readKinds a1 = some (z_D_readLevels, z_D_readKinds)) : MJ l yX7_levelIs cX7_levelIs 2 none Rm_X7_levelIs D (tysU cI cS cII) [.ref (DA 0), .int a1] (W_X7_levelIs cI cS cII DA D_length D_text D_levels D_readLevels D_readAsked D_asked D_readKinds D_now D_before D_undoMany D_kept D_keptMany D_refused D_roundMany D_roundOver D_round D_terms D_termLevel D_termAdd D_spot D_number D_reach D_edge D_by) none (W_X7_levelIs cI cS cII DA D_length D_text D_levels z_D_readLevels D_readAsked D_asked z_D_readKinds D_now D_before D_undoMany D_kept D_keptMany D_refused D_roundMany D_roundOver D_round D_terms D_termLevel D_termAdd D_spot D_number D_reach D_edge D_by) := by
  refine mj_of (own := RX7) (by decide) rfl (Nat.le_of_ble_eq_true rfl) (fun J hJ => ?_)
  show J (W_X7_levelIs cI cS cII DA D_length D_text D_levels D_readLevels D_readAsked D_asked D_readKinds D_now D_before D_undoMany D_kept D_keptMany D_refused D_roundMany D_roundOver D_round D_terms D_termLevel D_termAdd D_spot D_number D_reach D_edge D_by) 0 [(0, .ref (DA 0)), (1, .int a1)] []
  unfold p_X7_levelIs at hF
  refine jj_aload_n hJ dX7_levelIs_0 0 rfl rfl ?_
  refine jj_get hJ lay_X7 dX7_levelIs_1 0 6 rfl rfl (Nat.le_of_ble_eq_true rfl) kw_136 rfl ?_
  refine jj_aload_n hJ dX7_levelIs_4 0 rfl rfl ?_
  refine jj_get hJ lay_X7 dX7_levelIs_5 0 3 rfl rfl (Nat.le_of_ble_eq_true rfl) kw_134 rfl ?_
  refine jj_iload_n hJ dX7_levelIs_8 1 rfl rfl ?_
  obtain ⟨g1, h2, hF⟩ := ob hF
  refine jj_iast hJ dX7_levelIs_9 3 0 rfl rfl h2 (wn := (W_X7_levelIs cI cS cII DA D_length D_text D_levels D_readLevels D_readAsked D_asked g1 D_now D_before D_undoMany D_kept D_keptMany D_refused D_roundMany D_roundOver D_round D_terms D_termLevel D_termAdd D_spot D_number D_reach D_edge D_by)) rfl ?_
  refine jj_aload_n hJ dX7_levelIs_10 0 rfl rfl ?_
  refine jj_dup hJ dX7_levelIs_11 rfl ?_
  refine jj_get hJ lay_X7 dX7_levelIs_12 0 3 rfl rfl (Nat.le_of_ble_eq_true rfl) kw_134 rfl ?_
  refine jj_iconst hJ dX7_levelIs_15 ic_1 ?_
  refine jj_iadd hJ dX7_levelIs_16 ?_
  refine jj_puti hJ lay_X7 tyX7 tyX7_ok nmX7 dX7_levelIs_17 0 3 rfl rfl (Nat.le_of_ble_eq_true rfl) kw_134 rfl rfl (Nat.le_of_ble_eq_true rfl) (wn := (W_X7_levelIs cI cS cII DA D_length D_text D_levels (D_readLevels + 1) D_readAsked D_asked g1 D_now D_before D_undoMany D_kept D_keptMany D_refused D_roundMany D_roundOver D_round D_terms D_termLevel D_termAdd D_spot D_number D_reach D_edge D_by)) rfl ?_
  cases Option.some.inj hF
  exact jj_vret hJ dX7_levelIs_20
section
def W_X7_askedIs (cI cS cII : ClassId) (DA : Nat → Nat) (D_length : Int32) (D_text : Nat → Int32) (D_levels : Int32) (D_readLevels : Int32) (D_readAsked : Int32) (D_asked : Nat → Int32) (D_readKinds : Nat → Int32) (D_now : Nat → Int32) (D_before : Nat → Int32) (D_undoMany : Int32) (D_kept : Nat → Int32) (D_keptMany : Int32) (D_refused : Int32) (D_roundMany : Int32) (D_roundOver : Int32) (D_round : Nat → Int32) (D_terms : Int32) (D_termLevel : Nat → Int32) (D_termAdd : Nat → Int32) (D_spot : Int32) (D_number : Nat → Int32) (D_reach : Nat → Int32) (D_edge : Nat → Int32) (D_by : Nat → Int32) : va_W := [((DA 0), .inr (7, [.int D_length, .ref (DA 1), .int D_levels, .int D_readLevels, .int D_readAsked, .ref (DA 2), .ref (DA 3), .ref (DA 4), .ref (DA 5), .int D_undoMany, .ref (DA 6), .int D_keptMany, .int D_refused, .int D_roundMany, .int D_roundOver, .ref (DA 7), .int D_terms, .ref (DA 8), .ref (DA 9), .int D_spot, .ref (DA 10), .ref (DA 11), .ref (DA 12), .ref (DA 13)])), ((DA 1), .inl (cI, 200, .inl D_text)), ((DA 2), .inl (cI, 160, .inl D_asked)), ((DA 3), .inl (cI, 10, .inl D_readKinds)), ((DA 4), .inl (cI, 59, .inl D_now)), ((DA 5), .inl (cI, 472, .inl D_before)), ((DA 6), .inl (cI, 118, .inl D_kept)), ((DA 7), .inl (cI, 12, .inl D_round)), ((DA 8), .inl (cI, 6, .inl D_termLevel)), ((DA 9), .inl (cI, 6, .inl D_termAdd)), ((DA 10), .inl (cI, 3, .inl D_number)), ((DA 11), .inl (cI, 100, .inl D_reach)), ((DA 12), .inl (cI, 100, .inl D_edge)), ((DA 13), .inl (cI, 110, .inl D_by))]
abbrev Rm_X7_askedIs : Room := { frames := 0, cells := 0, slots := 0, locals := 0 }
variable {l : Launch} {D : va_G} {cI cS cII : ClassId} {DA : Nat → Nat} {A : Nat → Prop} {J : jT}
variable {z_D_readAsked : Int32} {z_D_asked : Nat → Int32}
def p_X7_askedIs (D_readAsked : Int32) (D_asked : Nat → Int32) (a1 : Int32) (a2 : Int32) (a3 : Int32) : Option (Int32 × (Nat → Int32)) := (wr D_asked 160 (4 * D_readAsked) a1).bind fun g1 => (wr g1 160 ((4 * D_readAsked) + 1) a2).bind fun g3 => (wr g3 160 ((4 * D_readAsked) + 2) a3).bind fun g5 => some (D_readAsked + 1, g5)
end
set_option maxRecDepth 100000 in
theorem c_X7_askedIs (l : Launch) (D : va_G) (cI cS cII : ClassId) (DA : Nat → Nat) (D_length : Int32) (D_text : Nat → Int32) (D_levels : Int32) (D_readLevels : Int32) (D_readAsked : Int32) (D_asked : Nat → Int32) (D_readKinds : Nat → Int32) (D_now : Nat → Int32) (D_before : Nat → Int32) (D_undoMany : Int32) (D_kept : Nat → Int32) (D_keptMany : Int32) (D_refused : Int32) (D_roundMany : Int32) (D_roundOver : Int32) (D_round : Nat → Int32) (D_terms : Int32) (D_termLevel : Nat → Int32) (D_termAdd : Nat → Int32) (D_spot : Int32) (D_number : Nat → Int32) (D_reach : Nat → Int32) (D_edge : Nat → Int32) (D_by : Nat → Int32) (a1 : Int32) (a2 : Int32) (a3 : Int32) {z_D_readAsked : Int32} {z_D_asked : Nat → Int32} (hF : p_X7_askedIs D_readAsked D_asked a1 a2 a3 = some (z_D_readAsked, z_D_asked)) : MJ l yX7_askedIs cX7_askedIs 5 none Rm_X7_askedIs D (tysU cI cS cII) [.ref (DA 0), .int a1, .int a2, .int a3] (W_X7_askedIs cI cS cII DA D_length D_text D_levels D_readLevels D_readAsked D_asked D_readKinds D_now D_before D_undoMany D_kept D_keptMany D_refused D_roundMany D_roundOver D_round D_terms D_termLevel D_termAdd D_spot D_number D_reach D_edge D_by) none (W_X7_askedIs cI cS cII DA D_length D_text D_levels D_readLevels z_D_readAsked z_D_asked D_readKinds D_now D_before D_undoMany D_kept D_keptMany D_refused D_roundMany D_roundOver D_round D_terms D_termLevel D_termAdd D_spot D_number D_reach D_edge D_by) := by
  refine mj_of (own := RX7) (by decide) rfl (Nat.le_of_ble_eq_true rfl) (fun J hJ => ?_)
  show J (W_X7_askedIs cI cS cII DA D_length D_text D_levels D_readLevels D_readAsked D_asked D_readKinds D_now D_before D_undoMany D_kept D_keptMany D_refused D_roundMany D_roundOver D_round D_terms D_termLevel D_termAdd D_spot D_number D_reach D_edge D_by) 0 [(0, .ref (DA 0)), (1, .int a1), (2, .int a2), (3, .int a3)] []
  unfold p_X7_askedIs at hF
  refine jj_iconst hJ dX7_askedIs_0 ic_4 ?_
  refine jj_aload_n hJ dX7_askedIs_1 0 rfl rfl ?_
  refine jj_get hJ lay_X7 dX7_askedIs_2 0 4 rfl rfl (Nat.le_of_ble_eq_true rfl) kw_135 rfl ?_
  refine jj_imul hJ dX7_askedIs_5 ?_
  refine jj_istore hJ dX7_askedIs_6 (Nat.le_of_ble_eq_true rfl) (lv' := [(4, .int (4 * D_readAsked)), (0, .ref (DA 0)), (1, .int a1), (2, .int a2), (3, .int a3)]) rfl ?_
  refine jj_aload_n hJ dX7_askedIs_8 1 rfl rfl ?_
  refine jj_get hJ lay_X7 dX7_askedIs_9 0 5 rfl rfl (Nat.le_of_ble_eq_true rfl) kw_137 rfl ?_
  refine jj_iload hJ dX7_askedIs_12 0 rfl ?_
  refine jj_iload_n hJ dX7_askedIs_14 2 rfl rfl ?_
  obtain ⟨g1, h2, hF⟩ := ob hF
  refine jj_iast hJ dX7_askedIs_15 2 0 rfl rfl h2 (wn := (W_X7_askedIs cI cS cII DA D_length D_text D_levels D_readLevels D_readAsked g1 D_readKinds D_now D_before D_undoMany D_kept D_keptMany D_refused D_roundMany D_roundOver D_round D_terms D_termLevel D_termAdd D_spot D_number D_reach D_edge D_by)) rfl ?_
  refine jj_aload_n hJ dX7_askedIs_16 1 rfl rfl ?_
  refine jj_get hJ lay_X7 dX7_askedIs_17 0 5 rfl rfl (Nat.le_of_ble_eq_true rfl) kw_137 rfl ?_
  refine jj_iload hJ dX7_askedIs_20 0 rfl ?_
  refine jj_iconst hJ dX7_askedIs_22 ic_1 ?_
  refine jj_iadd hJ dX7_askedIs_23 ?_
  refine jj_iload_n hJ dX7_askedIs_24 3 rfl rfl ?_
  obtain ⟨g3, h4, hF⟩ := ob hF
  refine jj_iast hJ dX7_askedIs_25 2 0 rfl rfl h4 (wn := (W_X7_askedIs cI cS cII DA D_length D_text D_levels D_readLevels D_readAsked g3 D_readKinds D_now D_before D_undoMany D_kept D_keptMany D_refused D_roundMany D_roundOver D_round D_terms D_termLevel D_termAdd D_spot D_number D_reach D_edge D_by)) rfl ?_
  refine jj_aload_n hJ dX7_askedIs_26 1 rfl rfl ?_
  refine jj_get hJ lay_X7 dX7_askedIs_27 0 5 rfl rfl (Nat.le_of_ble_eq_true rfl) kw_137 rfl ?_
  refine jj_iload hJ dX7_askedIs_30 0 rfl ?_
  refine jj_iconst hJ dX7_askedIs_32 ic_2 ?_
  refine jj_iadd hJ dX7_askedIs_33 ?_
  refine jj_iload_n hJ dX7_askedIs_34 4 rfl rfl ?_
  obtain ⟨g5, h6, hF⟩ := ob hF
  refine jj_iast hJ dX7_askedIs_35 2 0 rfl rfl h6 (wn := (W_X7_askedIs cI cS cII DA D_length D_text D_levels D_readLevels D_readAsked g5 D_readKinds D_now D_before D_undoMany D_kept D_keptMany D_refused D_roundMany D_roundOver D_round D_terms D_termLevel D_termAdd D_spot D_number D_reach D_edge D_by)) rfl ?_
  refine jj_aload_n hJ dX7_askedIs_36 1 rfl rfl ?_
  refine jj_dup hJ dX7_askedIs_37 rfl ?_
  refine jj_get hJ lay_X7 dX7_askedIs_38 0 4 rfl rfl (Nat.le_of_ble_eq_true rfl) kw_135 rfl ?_
  refine jj_iconst hJ dX7_askedIs_41 ic_1 ?_
  refine jj_iadd hJ dX7_askedIs_42 ?_
  refine jj_puti hJ lay_X7 tyX7 tyX7_ok nmX7 dX7_askedIs_43 0 4 rfl rfl (Nat.le_of_ble_eq_true rfl) kw_135 rfl rfl (Nat.le_of_ble_eq_true rfl) (wn := (W_X7_askedIs cI cS cII DA D_length D_text D_levels D_readLevels (D_readAsked + 1) g5 D_readKinds D_now D_before D_undoMany D_kept D_keptMany D_refused D_roundMany D_roundOver D_round D_terms D_termLevel D_termAdd D_spot D_number D_reach D_edge D_by)) rfl ?_
  cases Option.some.inj hF
  exact jj_vret hJ dX7_askedIs_46
section
def W_X7_write (cI cS cII : ClassId) (DA : Nat → Nat) (D_length : Int32) (D_text : Nat → Int32) (D_levels : Int32) (D_readLevels : Int32) (D_readAsked : Int32) (D_asked : Nat → Int32) (D_readKinds : Nat → Int32) (D_now : Nat → Int32) (D_before : Nat → Int32) (D_undoMany : Int32) (D_kept : Nat → Int32) (D_keptMany : Int32) (D_refused : Int32) (D_roundMany : Int32) (D_roundOver : Int32) (D_round : Nat → Int32) (D_terms : Int32) (D_termLevel : Nat → Int32) (D_termAdd : Nat → Int32) (D_spot : Int32) (D_number : Nat → Int32) (D_reach : Nat → Int32) (D_edge : Nat → Int32) (D_by : Nat → Int32) : va_W := [((DA 0), .inr (7, [.int D_length, .ref (DA 1), .int D_levels, .int D_readLevels, .int D_readAsked, .ref (DA 2), .ref (DA 3), .ref (DA 4), .ref (DA 5), .int D_undoMany, .ref (DA 6), .int D_keptMany, .int D_refused, .int D_roundMany, .int D_roundOver, .ref (DA 7), .int D_terms, .ref (DA 8), .ref (DA 9), .int D_spot, .ref (DA 10), .ref (DA 11), .ref (DA 12), .ref (DA 13)])), ((DA 1), .inl (cI, 200, .inl D_text)), ((DA 2), .inl (cI, 160, .inl D_asked)), ((DA 3), .inl (cI, 10, .inl D_readKinds)), ((DA 4), .inl (cI, 59, .inl D_now)), ((DA 5), .inl (cI, 472, .inl D_before)), ((DA 6), .inl (cI, 118, .inl D_kept)), ((DA 7), .inl (cI, 12, .inl D_round)), ((DA 8), .inl (cI, 6, .inl D_termLevel)), ((DA 9), .inl (cI, 6, .inl D_termAdd)), ((DA 10), .inl (cI, 3, .inl D_number)), ((DA 11), .inl (cI, 100, .inl D_reach)), ((DA 12), .inl (cI, 100, .inl D_edge)), ((DA 13), .inl (cI, 110, .inl D_by))]
abbrev Rm_X7_write : Room := { frames := 1, cells := 0, slots := 0, locals := 25 }
variable {l : Launch} {D : va_G} {cI cS cII : ClassId} {DA : Nat → Nat} {A : Nat → Prop} {J : jT}
variable {z_r : Int32} {z_D_length : Int32} {z_D_text : Nat → Int32}
def p_X7_write (D_length : Int32) (D_text : Nat → Int32) (a1 : Int32) : Option (Int32 × Int32 × (Nat → Int32)) := (p_X7_in ((a1 : Int32).toInt64) ((32)) ((126))).bind fun r2 => if r2 = 0 then (some ((-1), D_length, D_text)) else (if D_length = 200 then (some ((-3), D_length, D_text)) else ((wr D_text 200 D_length a1).bind fun g5 => some (D_length + 1, D_length + 1, g5)))
end
set_option maxRecDepth 100000 in
theorem c_X7_write (l : Launch) (D : va_G) (cI cS cII : ClassId) (DA : Nat → Nat) (D_length : Int32) (D_text : Nat → Int32) (D_levels : Int32) (D_readLevels : Int32) (D_readAsked : Int32) (D_asked : Nat → Int32) (D_readKinds : Nat → Int32) (D_now : Nat → Int32) (D_before : Nat → Int32) (D_undoMany : Int32) (D_kept : Nat → Int32) (D_keptMany : Int32) (D_refused : Int32) (D_roundMany : Int32) (D_roundOver : Int32) (D_round : Nat → Int32) (D_terms : Int32) (D_termLevel : Nat → Int32) (D_termAdd : Nat → Int32) (D_spot : Int32) (D_number : Nat → Int32) (D_reach : Nat → Int32) (D_edge : Nat → Int32) (D_by : Nat → Int32) (a1 : Int32) {z_r : Int32} {z_D_length : Int32} {z_D_text : Nat → Int32} (hF : p_X7_write D_length D_text a1 = some (z_r, z_D_length, z_D_text)) : MJ l yX7_write cX7_write 2 (some .int) Rm_X7_write D (tysU cI cS cII) [.ref (DA 0), .int a1] (W_X7_write cI cS cII DA D_length D_text D_levels D_readLevels D_readAsked D_asked D_readKinds D_now D_before D_undoMany D_kept D_keptMany D_refused D_roundMany D_roundOver D_round D_terms D_termLevel D_termAdd D_spot D_number D_reach D_edge D_by) (some z_r) (W_X7_write cI cS cII DA z_D_length z_D_text D_levels D_readLevels D_readAsked D_asked D_readKinds D_now D_before D_undoMany D_kept D_keptMany D_refused D_roundMany D_roundOver D_round D_terms D_termLevel D_termAdd D_spot D_number D_reach D_edge D_by) := by
  refine mj_of (own := RX7) (by decide) rfl (Nat.le_of_ble_eq_true rfl) (fun J hJ => ?_)
  show J (W_X7_write cI cS cII DA D_length D_text D_levels D_readLevels D_readAsked D_asked D_readKinds D_now D_before D_undoMany D_kept D_keptMany D_refused D_roundMany D_roundOver D_round D_terms D_termLevel D_termAdd D_spot D_number D_reach D_edge D_by) 0 [(0, .ref (DA 0)), (1, .int a1)] []
  unfold p_X7_write at hF
  refine jj_iload_n hJ dX7_write_0 1 rfl rfl ?_
  refine jj_i2l hJ dX7_write_1 ?_
  refine jj_ldc2 hJ dX7_write_2 kw_138 ?_
  refine jj_ldc2 hJ dX7_write_5 kw_139 ?_
  obtain ⟨r2, h1, hF⟩ := ob hF
  refine jj_callS0 hJ (c_X7_in l D cI cS cII   ((a1 : Int32).toInt64) ((32)) ((126)) h1) dX7_write_8 kw_140 ⟨Nat.le_of_ble_eq_true rfl, Nat.le_of_ble_eq_true rfl, rfl, rfl⟩ kw_141 kw_142 rfl rfl (Nat.le_of_ble_eq_true rfl) [] rfl rfl ?_
  refine jj_if_ne hJ 16 dX7_write_11 rfl (fun c3 => ?_) (fun c3 => ?_)
  · replace hF := iq c3 hF
    refine jj_aload_n hJ dX7_write_16 0 rfl rfl ?_
    refine jj_get hJ lay_X7 dX7_write_17 0 0 rfl rfl (Nat.le_of_ble_eq_true rfl) kw_143 rfl ?_
    refine jj_sipush hJ dX7_write_20 sp_200 ?_
    refine jj_icmp_ne hJ 29 dX7_write_23 rfl (fun c4 => ?_) (fun c4 => ?_)
    · replace hF := iq c4 hF
      refine jj_aload_n hJ dX7_write_29 0 rfl rfl ?_
      refine jj_get hJ lay_X7 dX7_write_30 0 1 rfl rfl (Nat.le_of_ble_eq_true rfl) kw_144 rfl ?_
      refine jj_aload_n hJ dX7_write_33 0 rfl rfl ?_
      refine jj_get hJ lay_X7 dX7_write_34 0 0 rfl rfl (Nat.le_of_ble_eq_true rfl) kw_143 rfl ?_
      refine jj_iload_n hJ dX7_write_37 1 rfl rfl ?_
      obtain ⟨g5, h6, hF⟩ := ob hF
      refine jj_iast hJ dX7_write_38 1 0 rfl rfl h6 (wn := (W_X7_write cI cS cII DA D_length g5 D_levels D_readLevels D_readAsked D_asked D_readKinds D_now D_before D_undoMany D_kept D_keptMany D_refused D_roundMany D_roundOver D_round D_terms D_termLevel D_termAdd D_spot D_number D_reach D_edge D_by)) rfl ?_
      refine jj_aload_n hJ dX7_write_39 0 rfl rfl ?_
      refine jj_dup hJ dX7_write_40 rfl ?_
      refine jj_get hJ lay_X7 dX7_write_41 0 0 rfl rfl (Nat.le_of_ble_eq_true rfl) kw_143 rfl ?_
      refine jj_iconst hJ dX7_write_44 ic_1 ?_
      refine jj_iadd hJ dX7_write_45 ?_
      refine jj_puti hJ lay_X7 tyX7 tyX7_ok nmX7 dX7_write_46 0 0 rfl rfl (Nat.le_of_ble_eq_true rfl) kw_143 rfl rfl (Nat.le_of_ble_eq_true rfl) (wn := (W_X7_write cI cS cII DA (D_length + 1) g5 D_levels D_readLevels D_readAsked D_asked D_readKinds D_now D_before D_undoMany D_kept D_keptMany D_refused D_roundMany D_roundOver D_round D_terms D_termLevel D_termAdd D_spot D_number D_reach D_edge D_by)) rfl ?_
      refine jj_aload_n hJ dX7_write_49 0 rfl rfl ?_
      refine jj_get hJ lay_X7 dX7_write_50 0 0 rfl rfl (Nat.le_of_ble_eq_true rfl) kw_143 rfl ?_
      cases Option.some.inj hF
      exact jj_iret hJ dX7_write_53
    · replace hF := ip c4 hF
      refine jj_bipush hJ dX7_write_26 bp_m3 ?_
      cases Option.some.inj hF
      exact jj_iret hJ dX7_write_28
  · replace hF := ip c3 hF
    refine jj_iconst hJ dX7_write_14 ic_m1 ?_
    cases Option.some.inj hF
    exact jj_iret hJ dX7_write_15
section
def W_X7_wipe (cI cS cII : ClassId) (DA : Nat → Nat) (D_length : Int32) (D_text : Nat → Int32) (D_levels : Int32) (D_readLevels : Int32) (D_readAsked : Int32) (D_asked : Nat → Int32) (D_readKinds : Nat → Int32) (D_now : Nat → Int32) (D_before : Nat → Int32) (D_undoMany : Int32) (D_kept : Nat → Int32) (D_keptMany : Int32) (D_refused : Int32) (D_roundMany : Int32) (D_roundOver : Int32) (D_round : Nat → Int32) (D_terms : Int32) (D_termLevel : Nat → Int32) (D_termAdd : Nat → Int32) (D_spot : Int32) (D_number : Nat → Int32) (D_reach : Nat → Int32) (D_edge : Nat → Int32) (D_by : Nat → Int32) : va_W := [((DA 0), .inr (7, [.int D_length, .ref (DA 1), .int D_levels, .int D_readLevels, .int D_readAsked, .ref (DA 2), .ref (DA 3), .ref (DA 4), .ref (DA 5), .int D_undoMany, .ref (DA 6), .int D_keptMany, .int D_refused, .int D_roundMany, .int D_roundOver, .ref (DA 7), .int D_terms, .ref (DA 8), .ref (DA 9), .int D_spot, .ref (DA 10), .ref (DA 11), .ref (DA 12), .ref (DA 13)])), ((DA 1), .inl (cI, 200, .inl D_text)), ((DA 2), .inl (cI, 160, .inl D_asked)), ((DA 3), .inl (cI, 10, .inl D_readKinds)), ((DA 4), .inl (cI, 59, .inl D_now)), ((DA 5), .inl (cI, 472, .inl D_before)), ((DA 6), .inl (cI, 118, .inl D_kept)), ((DA 7), .inl (cI, 12, .inl D_round)), ((DA 8), .inl (cI, 6, .inl D_termLevel)), ((DA 9), .inl (cI, 6, .inl D_termAdd)), ((DA 10), .inl (cI, 3, .inl D_number)), ((DA 11), .inl (cI, 100, .inl D_reach)), ((DA 12), .inl (cI, 100, .inl D_edge)), ((DA 13), .inl (cI, 110, .inl D_by))]
abbrev Rm_X7_wipe : Room := { frames := 0, cells := 0, slots := 0, locals := 0 }
variable {l : Launch} {D : va_G} {cI cS cII : ClassId} {DA : Nat → Nat} {A : Nat → Prop} {J : jT}
variable {z_r : Int32} {z_D_length : Int32}
def p_X7_wipe (D_length : Int32) : Option (Int32 × Int32) := some (D_length, 0)
end
set_option maxRecDepth 100000 in
theorem c_X7_wipe (l : Launch) (D : va_G) (cI cS cII : ClassId) (DA : Nat → Nat) (D_length : Int32) (D_text : Nat → Int32) (D_levels : Int32) (D_readLevels : Int32) (D_readAsked : Int32) (D_asked : Nat → Int32) (D_readKinds : Nat → Int32) (D_now : Nat → Int32) (D_before : Nat → Int32) (D_undoMany : Int32) (D_kept : Nat → Int32) (D_keptMany : Int32) (D_refused : Int32) (D_roundMany : Int32) (D_roundOver : Int32) (D_round : Nat → Int32) (D_terms : Int32) (D_termLevel : Nat → Int32) (D_termAdd : Nat → Int32) (D_spot : Int32) (D_number : Nat → Int32) (D_reach : Nat → Int32) (D_edge : Nat → Int32) (D_by : Nat → Int32)  {z_r : Int32} {z_D_length : Int32} (hF : p_X7_wipe D_length = some (z_r, z_D_length)) : MJ l yX7_wipe cX7_wipe 2 (some .int) Rm_X7_wipe D (tysU cI cS cII) [.ref (DA 0)] (W_X7_wipe cI cS cII DA D_length D_text D_levels D_readLevels D_readAsked D_asked D_readKinds D_now D_before D_undoMany D_kept D_keptMany D_refused D_roundMany D_roundOver D_round D_terms D_termLevel D_termAdd D_spot D_number D_reach D_edge D_by) (some z_r) (W_X7_wipe cI cS cII DA z_D_length D_text D_levels D_readLevels D_readAsked D_asked D_readKinds D_now D_before D_undoMany D_kept D_keptMany D_refused D_roundMany D_roundOver D_round D_terms D_termLevel D_termAdd D_spot D_number D_reach D_edge D_by) := by
  refine mj_of (own := RX7) (by decide) rfl (Nat.le_of_ble_eq_true rfl) (fun J hJ => ?_)
  show J (W_X7_wipe cI cS cII DA D_length D_text D_levels D_readLevels D_readAsked D_asked D_readKinds D_now D_before D_undoMany D_kept D_keptMany D_refused D_roundMany D_roundOver D_round D_terms D_termLevel D_termAdd D_spot D_number D_reach D_edge D_by) 0 [(0, .ref (DA 0))] []
  unfold p_X7_wipe at hF
  refine jj_aload_n hJ dX7_wipe_0 0 rfl rfl ?_
  refine jj_get hJ lay_X7 dX7_wipe_1 0 0 rfl rfl (Nat.le_of_ble_eq_true rfl) kw_143 rfl ?_
  refine jj_istore_n hJ dX7_wipe_4 rfl (Nat.le_of_ble_eq_true rfl) (lv' := [(1, .int D_length), (0, .ref (DA 0))]) rfl ?_
  refine jj_aload_n hJ dX7_wipe_5 1 rfl rfl ?_
  refine jj_iconst hJ dX7_wipe_6 ic_0 ?_
  refine jj_puti hJ lay_X7 tyX7 tyX7_ok nmX7 dX7_wipe_7 0 0 rfl rfl (Nat.le_of_ble_eq_true rfl) kw_143 rfl rfl (Nat.le_of_ble_eq_true rfl) (wn := (W_X7_wipe cI cS cII DA 0 D_text D_levels D_readLevels D_readAsked D_asked D_readKinds D_now D_before D_undoMany D_kept D_keptMany D_refused D_roundMany D_roundOver D_round D_terms D_termLevel D_termAdd D_spot D_number D_reach D_edge D_by)) rfl ?_
  refine jj_iload_n hJ dX7_wipe_10 0 rfl rfl ?_
  cases Option.some.inj hF
  exact jj_iret hJ dX7_wipe_11
section
def W_X7_letterAt (cI cS cII : ClassId) (DA : Nat → Nat) (D_length : Int32) (D_text : Nat → Int32) (D_levels : Int32) (D_readLevels : Int32) (D_readAsked : Int32) (D_asked : Nat → Int32) (D_readKinds : Nat → Int32) (D_now : Nat → Int32) (D_before : Nat → Int32) (D_undoMany : Int32) (D_kept : Nat → Int32) (D_keptMany : Int32) (D_refused : Int32) (D_roundMany : Int32) (D_roundOver : Int32) (D_round : Nat → Int32) (D_terms : Int32) (D_termLevel : Nat → Int32) (D_termAdd : Nat → Int32) (D_spot : Int32) (D_number : Nat → Int32) (D_reach : Nat → Int32) (D_edge : Nat → Int32) (D_by : Nat → Int32) : va_W := [((DA 0), .inr (7, [.int D_length, .ref (DA 1), .int D_levels, .int D_readLevels, .int D_readAsked, .ref (DA 2), .ref (DA 3), .ref (DA 4), .ref (DA 5), .int D_undoMany, .ref (DA 6), .int D_keptMany, .int D_refused, .int D_roundMany, .int D_roundOver, .ref (DA 7), .int D_terms, .ref (DA 8), .ref (DA 9), .int D_spot, .ref (DA 10), .ref (DA 11), .ref (DA 12), .ref (DA 13)])), ((DA 1), .inl (cI, 200, .inl D_text)), ((DA 2), .inl (cI, 160, .inl D_asked)), ((DA 3), .inl (cI, 10, .inl D_readKinds)), ((DA 4), .inl (cI, 59, .inl D_now)), ((DA 5), .inl (cI, 472, .inl D_before)), ((DA 6), .inl (cI, 118, .inl D_kept)), ((DA 7), .inl (cI, 12, .inl D_round)), ((DA 8), .inl (cI, 6, .inl D_termLevel)), ((DA 9), .inl (cI, 6, .inl D_termAdd)), ((DA 10), .inl (cI, 3, .inl D_number)), ((DA 11), .inl (cI, 100, .inl D_reach)), ((DA 12), .inl (cI, 100, .inl D_edge)), ((DA 13), .inl (cI, 110, .inl D_by))]
abbrev Rm_X7_letterAt : Room := { frames := 0, cells := 0, slots := 0, locals := 0 }
variable {l : Launch} {D : va_G} {cI cS cII : ClassId} {DA : Nat → Nat} {A : Nat → Prop} {J : jT}
variable {z_r : Int32}
def p_X7_letterAt (D_length : Int32) (D_text : Nat → Int32) (a1 : Int32) : Option (Int32) := if D_length ≤ a1 then (some 0) else ((rd D_text 200 a1).bind fun x2 => some x2)
end
set_option maxRecDepth 100000 in
theorem c_X7_letterAt (l : Launch) (D : va_G) (cI cS cII : ClassId) (DA : Nat → Nat) (D_length : Int32) (D_text : Nat → Int32) (D_levels : Int32) (D_readLevels : Int32) (D_readAsked : Int32) (D_asked : Nat → Int32) (D_readKinds : Nat → Int32) (D_now : Nat → Int32) (D_before : Nat → Int32) (D_undoMany : Int32) (D_kept : Nat → Int32) (D_keptMany : Int32) (D_refused : Int32) (D_roundMany : Int32) (D_roundOver : Int32) (D_round : Nat → Int32) (D_terms : Int32) (D_termLevel : Nat → Int32) (D_termAdd : Nat → Int32) (D_spot : Int32) (D_number : Nat → Int32) (D_reach : Nat → Int32) (D_edge : Nat → Int32) (D_by : Nat → Int32) (a1 : Int32) {z_r : Int32} (hF : p_X7_letterAt D_length D_text a1 = some z_r) : MJ l yX7_letterAt cX7_letterAt 2 (some .int) Rm_X7_letterAt D (tysU cI cS cII) [.ref (DA 0), .int a1] (W_X7_letterAt cI cS cII DA D_length D_text D_levels D_readLevels D_readAsked D_asked D_readKinds D_now D_before D_undoMany D_kept D_keptMany D_refused D_roundMany D_roundOver D_round D_terms D_termLevel D_termAdd D_spot D_number D_reach D_edge D_by) (some z_r) (W_X7_letterAt cI cS cII DA D_length D_text D_levels D_readLevels D_readAsked D_asked D_readKinds D_now D_before D_undoMany D_kept D_keptMany D_refused D_roundMany D_roundOver D_round D_terms D_termLevel D_termAdd D_spot D_number D_reach D_edge D_by) := by
  refine mj_of (own := RX7) (by decide) rfl (Nat.le_of_ble_eq_true rfl) (fun J hJ => ?_)
  show J (W_X7_letterAt cI cS cII DA D_length D_text D_levels D_readLevels D_readAsked D_asked D_readKinds D_now D_before D_undoMany D_kept D_keptMany D_refused D_roundMany D_roundOver D_round D_terms D_termLevel D_termAdd D_spot D_number D_reach D_edge D_by) 0 [(0, .ref (DA 0)), (1, .int a1)] []
  unfold p_X7_letterAt at hF
  refine jj_iload_n hJ dX7_letterAt_0 1 rfl rfl ?_
  refine jj_aload_n hJ dX7_letterAt_1 0 rfl rfl ?_
  refine jj_get hJ lay_X7 dX7_letterAt_2 0 0 rfl rfl (Nat.le_of_ble_eq_true rfl) kw_143 rfl ?_
  refine jj_icmp_ge hJ 17 dX7_letterAt_5 rfl (fun c1 => ?_) (fun c1 => ?_)
  · replace hF := ip c1 hF
    refine jj_iconst hJ dX7_letterAt_17 ic_0 ?_
    cases Option.some.inj hF
    exact jj_iret hJ dX7_letterAt_18
  · replace hF := iq c1 hF
    refine jj_aload_n hJ dX7_letterAt_8 0 rfl rfl ?_
    refine jj_get hJ lay_X7 dX7_letterAt_9 0 1 rfl rfl (Nat.le_of_ble_eq_true rfl) kw_144 rfl ?_
    refine jj_iload_n hJ dX7_letterAt_12 1 rfl rfl ?_
    obtain ⟨x2, h3, hF⟩ := ob hF
    refine jj_iald hJ dX7_letterAt_13 1 0 rfl rfl h3 ?_
    refine jj_goto hJ 18 dX7_letterAt_14 rfl ?_
    cases Option.some.inj hF
    exact jj_iret hJ dX7_letterAt_18
section
def W_X7_numbers (cI cS cII : ClassId) (DA : Nat → Nat) (D_length : Int32) (D_text : Nat → Int32) (D_levels : Int32) (D_readLevels : Int32) (D_readAsked : Int32) (D_asked : Nat → Int32) (D_readKinds : Nat → Int32) (D_now : Nat → Int32) (D_before : Nat → Int32) (D_undoMany : Int32) (D_kept : Nat → Int32) (D_keptMany : Int32) (D_refused : Int32) (D_roundMany : Int32) (D_roundOver : Int32) (D_round : Nat → Int32) (D_terms : Int32) (D_termLevel : Nat → Int32) (D_termAdd : Nat → Int32) (D_spot : Int32) (D_number : Nat → Int32) (D_reach : Nat → Int32) (D_edge : Nat → Int32) (D_by : Nat → Int32) : va_W := [((DA 0), .inr (7, [.int D_length, .ref (DA 1), .int D_levels, .int D_readLevels, .int D_readAsked, .ref (DA 2), .ref (DA 3), .ref (DA 4), .ref (DA 5), .int D_undoMany, .ref (DA 6), .int D_keptMany, .int D_refused, .int D_roundMany, .int D_roundOver, .ref (DA 7), .int D_terms, .ref (DA 8), .ref (DA 9), .int D_spot, .ref (DA 10), .ref (DA 11), .ref (DA 12), .ref (DA 13)])), ((DA 1), .inl (cI, 200, .inl D_text)), ((DA 2), .inl (cI, 160, .inl D_asked)), ((DA 3), .inl (cI, 10, .inl D_readKinds)), ((DA 4), .inl (cI, 59, .inl D_now)), ((DA 5), .inl (cI, 472, .inl D_before)), ((DA 6), .inl (cI, 118, .inl D_kept)), ((DA 7), .inl (cI, 12, .inl D_round)), ((DA 8), .inl (cI, 6, .inl D_termLevel)), ((DA 9), .inl (cI, 6, .inl D_termAdd)), ((DA 10), .inl (cI, 3, .inl D_number)), ((DA 11), .inl (cI, 100, .inl D_reach)), ((DA 12), .inl (cI, 100, .inl D_edge)), ((DA 13), .inl (cI, 110, .inl D_by))]
abbrev Rm_X7_numbers : Room := { frames := 1, cells := 0, slots := 0, locals := 25 }
variable {l : Launch} {D : va_G} {cI cS cII : ClassId} {DA : Nat → Nat} {A : Nat → Prop} {J : jT}
variable {z_r : Int32} {z_D_spot : Int32} {z_D_number : Nat → Int32}
def q_X7_numbers_107 (D_length : Int32) (D_text : Nat → Int32) (a1 : Int32) (k2 : Int32 → Int32 → (Nat → Int32) → Option (Int32 × Int32 × (Nat → Int32))) (v4 : Int32) (v2 : Int32) (s0 : Int32) (s1 : Int32) (D_spot : Int32) (D_number : Nat → Int32) : Option (Int32 × Int32 × (Nat → Int32)) := if s1 = s0 then ((wr D_number 3 v2 v4).bind fun g2 => k2 (v2 + 1) (D_spot + 1) g2) else (some (0, D_spot, D_number))
set_option maxRecDepth 100000 in
theorem w_X7_numbers_107 {D_length : Int32} {D_text : Nat → Int32} {D_levels : Int32} {D_readLevels : Int32} {D_readAsked : Int32} {D_asked : Nat → Int32} {D_readKinds : Nat → Int32} {D_now : Nat → Int32} {D_before : Nat → Int32} {D_undoMany : Int32} {D_kept : Nat → Int32} {D_keptMany : Int32} {D_refused : Int32} {D_roundMany : Int32} {D_roundOver : Int32} {D_round : Nat → Int32} {D_terms : Int32} {D_termLevel : Nat → Int32} {D_termAdd : Nat → Int32} {D_reach : Nat → Int32} {D_edge : Nat → Int32} {D_by : Nat → Int32} {a1 : Int32} {k2 : Int32 → Int32 → (Nat → Int32) → Option (Int32 × Int32 × (Nat → Int32))} (hJ : jJ l cX7_numbers 5 D (tysU cI cS cII) RX7 Rm_X7_numbers (some .boolean) A (some z_r) (W_X7_numbers cI cS cII DA D_length D_text D_levels D_readLevels D_readAsked D_asked D_readKinds D_now D_before D_undoMany D_kept D_keptMany D_refused D_roundMany D_roundOver D_round D_terms D_termLevel D_termAdd z_D_spot z_D_number D_reach D_edge D_by) J) (hk2 : ∀ (v2 : Int32) (D_spot : Int32) (D_number : Nat → Int32), k2 v2 D_spot D_number = some (z_r, z_D_spot, z_D_number) → J (W_X7_numbers cI cS cII DA D_length D_text D_levels D_readLevels D_readAsked D_asked D_readKinds D_now D_before D_undoMany D_kept D_keptMany D_refused D_roundMany D_roundOver D_round D_terms D_termLevel D_termAdd D_spot D_number D_reach D_edge D_by) 2 [(2, .int v2), (0, .ref (DA 0)), (1, .int a1)] []) : ∀ (v4 : Int32) (v2 : Int32) (s0 : Int32) (s1 : Int32) (D_spot : Int32) (D_number : Nat → Int32), q_X7_numbers_107 D_length D_text a1 k2 v4 v2 s0 s1 D_spot D_number = some (z_r, z_D_spot, z_D_number) → J (W_X7_numbers cI cS cII DA D_length D_text D_levels D_readLevels D_readAsked D_asked D_readKinds D_now D_before D_undoMany D_kept D_keptMany D_refused D_roundMany D_roundOver D_round D_terms D_termLevel D_termAdd D_spot D_number D_reach D_edge D_by) 107 [(4, .int v4), (2, .int v2), (0, .ref (DA 0)), (1, .int a1)] [.int s0, .int s1] := by
  intro v4 v2 s0 s1 D_spot D_number hF
  unfold q_X7_numbers_107 at hF
  refine jj_icmp_eq hJ 112 dX7_numbers_107 rfl (fun c1 => ?_) (fun c1 => ?_)
  · replace hF := ip c1 hF
    refine jj_aload_n hJ dX7_numbers_112 2 rfl rfl ?_
    refine jj_get hJ lay_X7 dX7_numbers_113 0 20 rfl rfl (Nat.le_of_ble_eq_true rfl) kw_153 rfl ?_
    refine jj_iload_n hJ dX7_numbers_116 1 rfl rfl ?_
    refine jj_iload hJ dX7_numbers_117 0 rfl ?_
    obtain ⟨g2, h3, hF⟩ := ob hF
    refine jj_iast hJ dX7_numbers_119 10 0 rfl rfl h3 (wn := (W_X7_numbers cI cS cII DA D_length D_text D_levels D_readLevels D_readAsked D_asked D_readKinds D_now D_before D_undoMany D_kept D_keptMany D_refused D_roundMany D_roundOver D_round D_terms D_termLevel D_termAdd D_spot g2 D_reach D_edge D_by)) rfl ?_
    refine jj_aload_n hJ dX7_numbers_120 2 rfl rfl ?_
    refine jj_dup hJ dX7_numbers_121 rfl ?_
    refine jj_get hJ lay_X7 dX7_numbers_122 0 19 rfl rfl (Nat.le_of_ble_eq_true rfl) kw_145 rfl ?_
    refine jj_iconst hJ dX7_numbers_125 ic_1 ?_
    refine jj_iadd hJ dX7_numbers_126 ?_
    refine jj_puti hJ lay_X7 tyX7 tyX7_ok nmX7 dX7_numbers_127 0 19 rfl rfl (Nat.le_of_ble_eq_true rfl) kw_145 rfl rfl (Nat.le_of_ble_eq_true rfl) (wn := (W_X7_numbers cI cS cII DA D_length D_text D_levels D_readLevels D_readAsked D_asked D_readKinds D_now D_before D_undoMany D_kept D_keptMany D_refused D_roundMany D_roundOver D_round D_terms D_termLevel D_termAdd (D_spot + 1) g2 D_reach D_edge D_by)) rfl ?_
    refine jj_iinc hJ dX7_numbers_130 1 rfl (v := v2 + 1) (by rw [ic_1]) (Nat.le_of_ble_eq_true rfl) (lv' := [(2, .int (v2 + 1)), (4, .int v4), (0, .ref (DA 0)), (1, .int a1)]) rfl ?_
    refine jj_goto hJ 2 dX7_numbers_133 rfl ?_
    refine jj_lv hJ [0, 2, 3] (lv' := [(2, .int (v2 + 1)), (0, .ref (DA 0)), (1, .int a1)]) rfl ?_
    exact hk2 (v2 + 1) (D_spot + 1) g2 hF
  · replace hF := iq c1 hF
    refine jj_iconst hJ dX7_numbers_110 ic_0 ?_
    cases Option.some.inj hF
    exact jj_zret hJ (Or.inl rfl) dX7_numbers_111
def q_X7_numbers_73 (D_length : Int32) (D_text : Nat → Int32) (a1 : Int32) (k2 : Int32 → Int32 → (Nat → Int32) → Option (Int32 × Int32 × (Nat → Int32))) (v4 : Int32) (v3 : Int32) (v2 : Int32) (D_spot : Int32) (D_number : Nat → Int32) : Option (Int32 × Int32 × (Nat → Int32)) := (p_X7_in ((v3 : Int32).toInt64) 1 ((2))).bind fun r2 => if r2 = 0 then (some (0, D_spot, D_number)) else ((p_X7_letterAt D_length D_text D_spot).bind fun r5 => if (a1 - 1) ≤ v2 then (q_X7_numbers_107 D_length D_text a1 k2 v4 v2 59 r5 D_spot D_number) else (q_X7_numbers_107 D_length D_text a1 k2 v4 v2 44 r5 D_spot D_number))
set_option maxRecDepth 100000 in
theorem w_X7_numbers_73 {D_length : Int32} {D_text : Nat → Int32} {D_levels : Int32} {D_readLevels : Int32} {D_readAsked : Int32} {D_asked : Nat → Int32} {D_readKinds : Nat → Int32} {D_now : Nat → Int32} {D_before : Nat → Int32} {D_undoMany : Int32} {D_kept : Nat → Int32} {D_keptMany : Int32} {D_refused : Int32} {D_roundMany : Int32} {D_roundOver : Int32} {D_round : Nat → Int32} {D_terms : Int32} {D_termLevel : Nat → Int32} {D_termAdd : Nat → Int32} {D_reach : Nat → Int32} {D_edge : Nat → Int32} {D_by : Nat → Int32} {a1 : Int32} {k2 : Int32 → Int32 → (Nat → Int32) → Option (Int32 × Int32 × (Nat → Int32))} (hJ : jJ l cX7_numbers 5 D (tysU cI cS cII) RX7 Rm_X7_numbers (some .boolean) A (some z_r) (W_X7_numbers cI cS cII DA D_length D_text D_levels D_readLevels D_readAsked D_asked D_readKinds D_now D_before D_undoMany D_kept D_keptMany D_refused D_roundMany D_roundOver D_round D_terms D_termLevel D_termAdd z_D_spot z_D_number D_reach D_edge D_by) J) (hk2 : ∀ (v2 : Int32) (D_spot : Int32) (D_number : Nat → Int32), k2 v2 D_spot D_number = some (z_r, z_D_spot, z_D_number) → J (W_X7_numbers cI cS cII DA D_length D_text D_levels D_readLevels D_readAsked D_asked D_readKinds D_now D_before D_undoMany D_kept D_keptMany D_refused D_roundMany D_roundOver D_round D_terms D_termLevel D_termAdd D_spot D_number D_reach D_edge D_by) 2 [(2, .int v2), (0, .ref (DA 0)), (1, .int a1)] []) : ∀ (v4 : Int32) (v3 : Int32) (v2 : Int32) (D_spot : Int32) (D_number : Nat → Int32), q_X7_numbers_73 D_length D_text a1 k2 v4 v3 v2 D_spot D_number = some (z_r, z_D_spot, z_D_number) → J (W_X7_numbers cI cS cII DA D_length D_text D_levels D_readLevels D_readAsked D_asked D_readKinds D_now D_before D_undoMany D_kept D_keptMany D_refused D_roundMany D_roundOver D_round D_terms D_termLevel D_termAdd D_spot D_number D_reach D_edge D_by) 73 [(4, .int v4), (3, .int v3), (2, .int v2), (0, .ref (DA 0)), (1, .int a1)] [] := by
  intro v4 v3 v2 D_spot D_number hF
  unfold q_X7_numbers_73 at hF
  refine jj_iload_n hJ dX7_numbers_73 1 rfl rfl ?_
  refine jj_i2l hJ dX7_numbers_74 ?_
  refine jj_lconst hJ dX7_numbers_75 lc_1 ?_
  refine jj_ldc2 hJ dX7_numbers_76 kw_152 ?_
  obtain ⟨r2, h1, hF⟩ := ob hF
  refine jj_callS0 hJ (c_X7_in l D cI cS cII   ((v3 : Int32).toInt64) 1 ((2)) h1) dX7_numbers_79 kw_140 ⟨Nat.le_of_ble_eq_true rfl, Nat.le_of_ble_eq_true rfl, rfl, rfl⟩ kw_141 kw_142 rfl rfl (Nat.le_of_ble_eq_true rfl) [] rfl rfl ?_
  refine jj_if_eq hJ 110 dX7_numbers_82 rfl (fun c3 => ?_) (fun c3 => ?_)
  · replace hF := ip c3 hF
    refine jj_iconst hJ dX7_numbers_110 ic_0 ?_
    cases Option.some.inj hF
    exact jj_zret hJ (Or.inl rfl) dX7_numbers_111
  · replace hF := iq c3 hF
    refine jj_aload_n hJ dX7_numbers_85 3 rfl rfl ?_
    refine jj_aload_n hJ dX7_numbers_86 3 rfl rfl ?_
    refine jj_get hJ lay_X7 dX7_numbers_87 0 19 rfl rfl (Nat.le_of_ble_eq_true rfl) kw_145 rfl ?_
    obtain ⟨r5, h4, hF⟩ := ob hF
    refine jj_callV0 hJ (c_X7_letterAt l D cI cS cII DA D_length D_text D_levels D_readLevels D_readAsked D_asked D_readKinds D_now D_before D_undoMany D_kept D_keptMany D_refused D_roundMany D_roundOver D_round D_terms D_termLevel D_termAdd D_spot D_number D_reach D_edge D_by D_spot h4) dX7_numbers_90 kw_147 ⟨Nat.le_of_ble_eq_true rfl, Nat.le_of_ble_eq_true rfl, rfl, rfl⟩ kw_146 kw_148 kw_149 0 rfl rfl rfl rfl (Nat.le_of_ble_eq_true rfl) [0, 1, 2, 3, 4, 5, 6, 7, 8, 9, 10, 11, 12, 13] rfl rfl ?_
    refine jj_iload_n hJ dX7_numbers_93 2 rfl rfl ?_
    refine jj_iload_n hJ dX7_numbers_94 4 rfl rfl ?_
    refine jj_iconst hJ dX7_numbers_95 ic_1 ?_
    refine jj_isub hJ dX7_numbers_96 ?_
    refine jj_icmp_ge hJ 105 dX7_numbers_97 rfl (fun c6 => ?_) (fun c6 => ?_)
    · replace hF := ip c6 hF
      refine jj_bipush hJ dX7_numbers_105 bp_59 ?_
      refine jj_lv hJ [0, 2, 3, 4] (lv' := [(4, .int v4), (2, .int v2), (0, .ref (DA 0)), (1, .int a1)]) rfl ?_
      exact w_X7_numbers_107 hJ hk2 v4 v2 59 r5 D_spot D_number hF
    · replace hF := iq c6 hF
      refine jj_bipush hJ dX7_numbers_100 bp_44 ?_
      refine jj_goto hJ 107 dX7_numbers_102 rfl ?_
      refine jj_lv hJ [0, 2, 3, 4] (lv' := [(4, .int v4), (2, .int v2), (0, .ref (DA 0)), (1, .int a1)]) rfl ?_
      exact w_X7_numbers_107 hJ hk2 v4 v2 44 r5 D_spot D_number hF
def q_X7_numbers_12 (D_length : Int32) (D_text : Nat → Int32) (a1 : Int32) (k2 : Int32 → Int32 → (Nat → Int32) → Option (Int32 × Int32 × (Nat → Int32))) : Nat → Int32 → Int32 → Int32 → Int32 → (Nat → Int32) → Option (Int32 × Int32 × (Nat → Int32))
  | 0, _, _, _, _, _ => none
  | n + 1, v4, v3, v2, D_spot, D_number => (p_X7_letterAt D_length D_text D_spot).bind fun r2 => (p_X7_in ((r2 : Int32).toInt64) ((48)) ((57))).bind fun r4 => if r4 = 0 then (q_X7_numbers_73 D_length D_text a1 k2 v4 v3 v2 D_spot D_number) else (if 3 ≤ v3 then (q_X7_numbers_73 D_length D_text a1 k2 v4 v3 v2 D_spot D_number) else ((p_X7_letterAt D_length D_text D_spot).bind fun r8 => q_X7_numbers_12 D_length D_text a1 k2 n (((10 * v4) + r8) - 48) (v3 + 1) v2 (D_spot + 1) D_number))
set_option maxRecDepth 100000 in
theorem w_X7_numbers_12 {D_length : Int32} {D_text : Nat → Int32} {D_levels : Int32} {D_readLevels : Int32} {D_readAsked : Int32} {D_asked : Nat → Int32} {D_readKinds : Nat → Int32} {D_now : Nat → Int32} {D_before : Nat → Int32} {D_undoMany : Int32} {D_kept : Nat → Int32} {D_keptMany : Int32} {D_refused : Int32} {D_roundMany : Int32} {D_roundOver : Int32} {D_round : Nat → Int32} {D_terms : Int32} {D_termLevel : Nat → Int32} {D_termAdd : Nat → Int32} {D_reach : Nat → Int32} {D_edge : Nat → Int32} {D_by : Nat → Int32} {a1 : Int32} {k2 : Int32 → Int32 → (Nat → Int32) → Option (Int32 × Int32 × (Nat → Int32))} (hJ : jJ l cX7_numbers 5 D (tysU cI cS cII) RX7 Rm_X7_numbers (some .boolean) A (some z_r) (W_X7_numbers cI cS cII DA D_length D_text D_levels D_readLevels D_readAsked D_asked D_readKinds D_now D_before D_undoMany D_kept D_keptMany D_refused D_roundMany D_roundOver D_round D_terms D_termLevel D_termAdd z_D_spot z_D_number D_reach D_edge D_by) J) (hk2 : ∀ (v2 : Int32) (D_spot : Int32) (D_number : Nat → Int32), k2 v2 D_spot D_number = some (z_r, z_D_spot, z_D_number) → J (W_X7_numbers cI cS cII DA D_length D_text D_levels D_readLevels D_readAsked D_asked D_readKinds D_now D_before D_undoMany D_kept D_keptMany D_refused D_roundMany D_roundOver D_round D_terms D_termLevel D_termAdd D_spot D_number D_reach D_edge D_by) 2 [(2, .int v2), (0, .ref (DA 0)), (1, .int a1)] []) : ∀ (n : Nat) (v4 : Int32) (v3 : Int32) (v2 : Int32) (D_spot : Int32) (D_number : Nat → Int32), q_X7_numbers_12 D_length D_text a1 k2 n v4 v3 v2 D_spot D_number = some (z_r, z_D_spot, z_D_number) → J (W_X7_numbers cI cS cII DA D_length D_text D_levels D_readLevels D_readAsked D_asked D_readKinds D_now D_before D_undoMany D_kept D_keptMany D_refused D_roundMany D_roundOver D_round D_terms D_termLevel D_termAdd D_spot D_number D_reach D_edge D_by) 12 [(4, .int v4), (3, .int v3), (2, .int v2), (0, .ref (DA 0)), (1, .int a1)] [] := by
  intro n
  induction n with
  | zero =>
    intro v4 v3 v2 D_spot D_number hF
    exact no_some (show (none : Option (Int32 × Int32 × (Nat → Int32))) = some (z_r, z_D_spot, z_D_number) from hF)
  | succ n ih =>
    intro v4 v3 v2 D_spot D_number hF
    rw [q_X7_numbers_12.eq_2] at hF
    refine jj_aload_n hJ dX7_numbers_12 3 rfl rfl ?_
    refine jj_aload_n hJ dX7_numbers_13 3 rfl rfl ?_
    refine jj_get hJ lay_X7 dX7_numbers_14 0 19 rfl rfl (Nat.le_of_ble_eq_true rfl) kw_145 rfl ?_
    obtain ⟨r2, h1, hF⟩ := ob hF
    refine jj_callV0 hJ (c_X7_letterAt l D cI cS cII DA D_length D_text D_levels D_readLevels D_readAsked D_asked D_readKinds D_now D_before D_undoMany D_kept D_keptMany D_refused D_roundMany D_roundOver D_round D_terms D_termLevel D_termAdd D_spot D_number D_reach D_edge D_by D_spot h1) dX7_numbers_17 kw_147 ⟨Nat.le_of_ble_eq_true rfl, Nat.le_of_ble_eq_true rfl, rfl, rfl⟩ kw_146 kw_148 kw_149 0 rfl rfl rfl rfl (Nat.le_of_ble_eq_true rfl) [0, 1, 2, 3, 4, 5, 6, 7, 8, 9, 10, 11, 12, 13] rfl rfl ?_
    refine jj_i2l hJ dX7_numbers_20 ?_
    refine jj_ldc2 hJ dX7_numbers_21 kw_150 ?_
    refine jj_ldc2 hJ dX7_numbers_24 kw_151 ?_
    obtain ⟨r4, h3, hF⟩ := ob hF
    refine jj_callS0 hJ (c_X7_in l D cI cS cII   ((r2 : Int32).toInt64) ((48)) ((57)) h3) dX7_numbers_27 kw_140 ⟨Nat.le_of_ble_eq_true rfl, Nat.le_of_ble_eq_true rfl, rfl, rfl⟩ kw_141 kw_142 rfl rfl (Nat.le_of_ble_eq_true rfl) [] rfl rfl ?_
    refine jj_if_eq hJ 73 dX7_numbers_30 rfl (fun c5 => ?_) (fun c5 => ?_)
    · replace hF := ip c5 hF
      exact w_X7_numbers_73 hJ hk2 v4 v3 v2 D_spot D_number hF
    · replace hF := iq c5 hF
      refine jj_iload_n hJ dX7_numbers_33 1 rfl rfl ?_
      refine jj_iconst hJ dX7_numbers_34 ic_3 ?_
      refine jj_icmp_ge hJ 73 dX7_numbers_35 rfl (fun c6 => ?_) (fun c6 => ?_)
      · replace hF := ip c6 hF
        exact w_X7_numbers_73 hJ hk2 v4 v3 v2 D_spot D_number hF
      · replace hF := iq c6 hF
        refine jj_bipush hJ dX7_numbers_38 bp_10 ?_
        refine jj_iload hJ dX7_numbers_40 0 rfl ?_
        refine jj_imul hJ dX7_numbers_42 ?_
        refine jj_aload_n hJ dX7_numbers_43 3 rfl rfl ?_
        refine jj_aload_n hJ dX7_numbers_44 3 rfl rfl ?_
        refine jj_get hJ lay_X7 dX7_numbers_45 0 19 rfl rfl (Nat.le_of_ble_eq_true rfl) kw_145 rfl ?_
        obtain ⟨r8, h7, hF⟩ := ob hF
        refine jj_callV0 hJ (c_X7_letterAt l D cI cS cII DA D_length D_text D_levels D_readLevels D_readAsked D_asked D_readKinds D_now D_before D_undoMany D_kept D_keptMany D_refused D_roundMany D_roundOver D_round D_terms D_termLevel D_termAdd D_spot D_number D_reach D_edge D_by D_spot h7) dX7_numbers_48 kw_147 ⟨Nat.le_of_ble_eq_true rfl, Nat.le_of_ble_eq_true rfl, rfl, rfl⟩ kw_146 kw_148 kw_149 0 rfl rfl rfl rfl (Nat.le_of_ble_eq_true rfl) [0, 1, 2, 3, 4, 5, 6, 7, 8, 9, 10, 11, 12, 13] rfl rfl ?_
        refine jj_iadd hJ dX7_numbers_51 ?_
        refine jj_bipush hJ dX7_numbers_52 bp_48 ?_
        refine jj_isub hJ dX7_numbers_54 ?_
        refine jj_istore hJ dX7_numbers_55 (Nat.le_of_ble_eq_true rfl) (lv' := [(4, .int (((10 * v4) + r8) - 48)), (3, .int v3), (2, .int v2), (0, .ref (DA 0)), (1, .int a1)]) rfl ?_
        refine jj_iinc hJ dX7_numbers_57 1 rfl (v := v3 + 1) (by rw [ic_1]) (Nat.le_of_ble_eq_true rfl) (lv' := [(3, .int (v3 + 1)), (4, .int (((10 * v4) + r8) - 48)), (2, .int v2), (0, .ref (DA 0)), (1, .int a1)]) rfl ?_
        refine jj_aload_n hJ dX7_numbers_60 3 rfl rfl ?_
        refine jj_dup hJ dX7_numbers_61 rfl ?_
        refine jj_get hJ lay_X7 dX7_numbers_62 0 19 rfl rfl (Nat.le_of_ble_eq_true rfl) kw_145 rfl ?_
        refine jj_iconst hJ dX7_numbers_65 ic_1 ?_
        refine jj_iadd hJ dX7_numbers_66 ?_
        refine jj_puti hJ lay_X7 tyX7 tyX7_ok nmX7 dX7_numbers_67 0 19 rfl rfl (Nat.le_of_ble_eq_true rfl) kw_145 rfl rfl (Nat.le_of_ble_eq_true rfl) (wn := (W_X7_numbers cI cS cII DA D_length D_text D_levels D_readLevels D_readAsked D_asked D_readKinds D_now D_before D_undoMany D_kept D_keptMany D_refused D_roundMany D_roundOver D_round D_terms D_termLevel D_termAdd (D_spot + 1) D_number D_reach D_edge D_by)) rfl ?_
        refine jj_goto hJ 12 dX7_numbers_70 rfl ?_
        refine jj_lv hJ [1, 0, 2, 3, 4] (lv' := [(4, .int (((10 * v4) + r8) - 48)), (3, .int (v3 + 1)), (2, .int v2), (0, .ref (DA 0)), (1, .int a1)]) rfl ?_
        exact ih (((10 * v4) + r8) - 48) (v3 + 1) v2 (D_spot + 1) D_number hF
def q_X7_numbers_2 (D_length : Int32) (D_text : Nat → Int32) (a1 : Int32)  : Nat → Int32 → Int32 → (Nat → Int32) → Option (Int32 × Int32 × (Nat → Int32))
  | 0, _, _, _ => none
  | n + 1, v2, D_spot, D_number => if a1 ≤ v2 then (some (1, D_spot, D_number)) else (q_X7_numbers_12 D_length D_text a1 (q_X7_numbers_2 D_length D_text a1 n) FU 0 0 v2 D_spot D_number)
set_option maxRecDepth 100000 in
theorem w_X7_numbers_2 {D_length : Int32} {D_text : Nat → Int32} {D_levels : Int32} {D_readLevels : Int32} {D_readAsked : Int32} {D_asked : Nat → Int32} {D_readKinds : Nat → Int32} {D_now : Nat → Int32} {D_before : Nat → Int32} {D_undoMany : Int32} {D_kept : Nat → Int32} {D_keptMany : Int32} {D_refused : Int32} {D_roundMany : Int32} {D_roundOver : Int32} {D_round : Nat → Int32} {D_terms : Int32} {D_termLevel : Nat → Int32} {D_termAdd : Nat → Int32} {D_reach : Nat → Int32} {D_edge : Nat → Int32} {D_by : Nat → Int32} {a1 : Int32}  (hJ : jJ l cX7_numbers 5 D (tysU cI cS cII) RX7 Rm_X7_numbers (some .boolean) A (some z_r) (W_X7_numbers cI cS cII DA D_length D_text D_levels D_readLevels D_readAsked D_asked D_readKinds D_now D_before D_undoMany D_kept D_keptMany D_refused D_roundMany D_roundOver D_round D_terms D_termLevel D_termAdd z_D_spot z_D_number D_reach D_edge D_by) J)  : ∀ (n : Nat) (v2 : Int32) (D_spot : Int32) (D_number : Nat → Int32), q_X7_numbers_2 D_length D_text a1 n v2 D_spot D_number = some (z_r, z_D_spot, z_D_number) → J (W_X7_numbers cI cS cII DA D_length D_text D_levels D_readLevels D_readAsked D_asked D_readKinds D_now D_before D_undoMany D_kept D_keptMany D_refused D_roundMany D_roundOver D_round D_terms D_termLevel D_termAdd D_spot D_number D_reach D_edge D_by) 2 [(2, .int v2), (0, .ref (DA 0)), (1, .int a1)] [] := by
  intro n
  induction n with
  | zero =>
    intro v2 D_spot D_number hF
    exact no_some (show (none : Option (Int32 × Int32 × (Nat → Int32))) = some (z_r, z_D_spot, z_D_number) from hF)
  | succ n ih =>
    intro v2 D_spot D_number hF
    rw [q_X7_numbers_2.eq_2] at hF
    refine jj_iload_n hJ dX7_numbers_2 0 rfl rfl ?_
    refine jj_iload_n hJ dX7_numbers_3 2 rfl rfl ?_
    refine jj_icmp_ge hJ 136 dX7_numbers_4 rfl (fun c1 => ?_) (fun c1 => ?_)
    · replace hF := ip c1 hF
      refine jj_iconst hJ dX7_numbers_136 ic_1 ?_
      cases Option.some.inj hF
      exact jj_zret hJ (Or.inr rfl) dX7_numbers_137
    · replace hF := iq c1 hF
      refine jj_iconst hJ dX7_numbers_7 ic_0 ?_
      refine jj_istore_n hJ dX7_numbers_8 rfl (Nat.le_of_ble_eq_true rfl) (lv' := [(3, .int 0), (2, .int v2), (0, .ref (DA 0)), (1, .int a1)]) rfl ?_
      refine jj_iconst hJ dX7_numbers_9 ic_0 ?_
      refine jj_istore hJ dX7_numbers_10 (Nat.le_of_ble_eq_true rfl) (lv' := [(4, .int 0), (3, .int 0), (2, .int v2), (0, .ref (DA 0)), (1, .int a1)]) rfl ?_
      exact w_X7_numbers_12 hJ (fun v2 D_spot D_number => ih v2 D_spot D_number) FU 0 0 v2 D_spot D_number hF
def p_X7_numbers (D_length : Int32) (D_text : Nat → Int32) (D_spot : Int32) (D_number : Nat → Int32) (a1 : Int32) : Option (Int32 × Int32 × (Nat → Int32)) := q_X7_numbers_2 D_length D_text a1 FU 0 D_spot D_number
end
set_option maxRecDepth 100000 in
theorem c_X7_numbers (l : Launch) (D : va_G) (cI cS cII : ClassId) (DA : Nat → Nat) (D_length : Int32) (D_text : Nat → Int32) (D_levels : Int32) (D_readLevels : Int32) (D_readAsked : Int32) (D_asked : Nat → Int32) (D_readKinds : Nat → Int32) (D_now : Nat → Int32) (D_before : Nat → Int32) (D_undoMany : Int32) (D_kept : Nat → Int32) (D_keptMany : Int32) (D_refused : Int32) (D_roundMany : Int32) (D_roundOver : Int32) (D_round : Nat → Int32) (D_terms : Int32) (D_termLevel : Nat → Int32) (D_termAdd : Nat → Int32) (D_spot : Int32) (D_number : Nat → Int32) (D_reach : Nat → Int32) (D_edge : Nat → Int32) (D_by : Nat → Int32) (a1 : Int32) {z_r : Int32} {z_D_spot : Int32} {z_D_number : Nat → Int32} (hF : p_X7_numbers D_length D_text D_spot D_number a1 = some (z_r, z_D_spot, z_D_number)) : MJ l yX7_numbers cX7_numbers 5 (some .boolean) Rm_X7_numbers D (tysU cI cS cII) [.ref (DA 0), .int a1] (W_X7_numbers cI cS cII DA D_length D_text D_levels D_readLevels D_readAsked D_asked D_readKinds D_now D_before D_undoMany D_kept D_keptMany D_refused D_roundMany D_roundOver D_round D_terms D_termLevel D_termAdd D_spot D_number D_reach D_edge D_by) (some z_r) (W_X7_numbers cI cS cII DA D_length D_text D_levels D_readLevels D_readAsked D_asked D_readKinds D_now D_before D_undoMany D_kept D_keptMany D_refused D_roundMany D_roundOver D_round D_terms D_termLevel D_termAdd z_D_spot z_D_number D_reach D_edge D_by) := by
  refine mj_of (own := RX7) (by decide) rfl (Nat.le_of_ble_eq_true rfl) (fun J hJ => ?_)
  show J (W_X7_numbers cI cS cII DA D_length D_text D_levels D_readLevels D_readAsked D_asked D_readKinds D_now D_before D_undoMany D_kept D_keptMany D_refused D_roundMany D_roundOver D_round D_terms D_termLevel D_termAdd D_spot D_number D_reach D_edge D_by) 0 [(0, .ref (DA 0)), (1, .int a1)] []
  unfold p_X7_numbers at hF
  refine jj_iconst hJ dX7_numbers_0 ic_0 ?_
  refine jj_istore_n hJ dX7_numbers_1 rfl (Nat.le_of_ble_eq_true rfl) (lv' := [(2, .int 0), (0, .ref (DA 0)), (1, .int a1)]) rfl ?_
  exact w_X7_numbers_2 hJ  FU 0 D_spot D_number hF
section
def W_X7_item (cI cS cII : ClassId) (DA : Nat → Nat) (D_length : Int32) (D_text : Nat → Int32) (D_levels : Int32) (D_readLevels : Int32) (D_readAsked : Int32) (D_asked : Nat → Int32) (D_readKinds : Nat → Int32) (D_now : Nat → Int32) (D_before : Nat → Int32) (D_undoMany : Int32) (D_kept : Nat → Int32) (D_keptMany : Int32) (D_refused : Int32) (D_roundMany : Int32) (D_roundOver : Int32) (D_round : Nat → Int32) (D_terms : Int32) (D_termLevel : Nat → Int32) (D_termAdd : Nat → Int32) (D_spot : Int32) (D_number : Nat → Int32) (D_reach : Nat → Int32) (D_edge : Nat → Int32) (D_by : Nat → Int32) : va_W := [((DA 0), .inr (7, [.int D_length, .ref (DA 1), .int D_levels, .int D_readLevels, .int D_readAsked, .ref (DA 2), .ref (DA 3), .ref (DA 4), .ref (DA 5), .int D_undoMany, .ref (DA 6), .int D_keptMany, .int D_refused, .int D_roundMany, .int D_roundOver, .ref (DA 7), .int D_terms, .ref (DA 8), .ref (DA 9), .int D_spot, .ref (DA 10), .ref (DA 11), .ref (DA 12), .ref (DA 13)])), ((DA 1), .inl (cI, 200, .inl D_text)), ((DA 2), .inl (cI, 160, .inl D_asked)), ((DA 3), .inl (cI, 10, .inl D_readKinds)), ((DA 4), .inl (cI, 59, .inl D_now)), ((DA 5), .inl (cI, 472, .inl D_before)), ((DA 6), .inl (cI, 118, .inl D_kept)), ((DA 7), .inl (cI, 12, .inl D_round)), ((DA 8), .inl (cI, 6, .inl D_termLevel)), ((DA 9), .inl (cI, 6, .inl D_termAdd)), ((DA 10), .inl (cI, 3, .inl D_number)), ((DA 11), .inl (cI, 100, .inl D_reach)), ((DA 12), .inl (cI, 100, .inl D_edge)), ((DA 13), .inl (cI, 110, .inl D_by))]
abbrev Rm_X7_item : Room := { frames := 2, cells := 0, slots := 0, locals := 49 }
variable {l : Launch} {D : va_G} {cI cS cII : ClassId} {DA : Nat → Nat} {A : Nat → Prop} {J : jT}
variable {z_r : Int32} {z_D_readLevels : Int32} {z_D_readAsked : Int32} {z_D_asked : Nat → Int32} {z_D_readKinds : Nat → Int32} {z_D_spot : Int32} {z_D_number : Nat → Int32}
def q_X7_item_138 (D_length : Int32) (D_text : Nat → Int32)  (v3 : Int32) (v2 : Int32) (v1 : Int32) (s0 : Int32) (D_readLevels : Int32) (D_readAsked : Int32) (D_asked : Nat → Int32) (D_readKinds : Nat → Int32) (D_spot : Int32) (D_number : Nat → Int32) : Option (Int32 × Int32 × Int32 × (Nat → Int32) × (Nat → Int32) × Int32 × (Nat → Int32)) := if D_readLevels ≤ v2 then (some (0, D_readLevels, D_readAsked, D_asked, D_readKinds, D_spot, D_number)) else (if D_readLevels ≤ v3 then (some (0, D_readLevels, D_readAsked, D_asked, D_readKinds, D_spot, D_number)) else (if v2 = v3 then (some (0, D_readLevels, D_readAsked, D_asked, D_readKinds, D_spot, D_number)) else (if s0 ≤ 9 then (if v1 = 99 then ((p_X7_askedIs D_readAsked D_asked v2 s0 v3).bind fun (g10, g11) => some (1, D_readLevels, g10, g11, D_readKinds, D_spot, D_number)) else ((p_X7_askedIs D_readAsked D_asked v2 (-s0) v3).bind fun (g7, g8) => some (1, D_readLevels, g7, g8, D_readKinds, D_spot, D_number))) else (some (0, D_readLevels, D_readAsked, D_asked, D_readKinds, D_spot, D_number)))))
set_option maxRecDepth 100000 in
theorem w_X7_item_138 {D_length : Int32} {D_text : Nat → Int32} {D_levels : Int32} {D_now : Nat → Int32} {D_before : Nat → Int32} {D_undoMany : Int32} {D_kept : Nat → Int32} {D_keptMany : Int32} {D_refused : Int32} {D_roundMany : Int32} {D_roundOver : Int32} {D_round : Nat → Int32} {D_terms : Int32} {D_termLevel : Nat → Int32} {D_termAdd : Nat → Int32} {D_reach : Nat → Int32} {D_edge : Nat → Int32} {D_by : Nat → Int32}   (hJ : jJ l cX7_item 5 D (tysU cI cS cII) RX7 Rm_X7_item (some .boolean) A (some z_r) (W_X7_item cI cS cII DA D_length D_text D_levels z_D_readLevels z_D_readAsked z_D_asked z_D_readKinds D_now D_before D_undoMany D_kept D_keptMany D_refused D_roundMany D_roundOver D_round D_terms D_termLevel D_termAdd z_D_spot z_D_number D_reach D_edge D_by) J)  : ∀ (v3 : Int32) (v2 : Int32) (v1 : Int32) (s0 : Int32) (D_readLevels : Int32) (D_readAsked : Int32) (D_asked : Nat → Int32) (D_readKinds : Nat → Int32) (D_spot : Int32) (D_number : Nat → Int32), q_X7_item_138 D_length D_text v3 v2 v1 s0 D_readLevels D_readAsked D_asked D_readKinds D_spot D_number = some (z_r, z_D_readLevels, z_D_readAsked, z_D_asked, z_D_readKinds, z_D_spot, z_D_number) → J (W_X7_item cI cS cII DA D_length D_text D_levels D_readLevels D_readAsked D_asked D_readKinds D_now D_before D_undoMany D_kept D_keptMany D_refused D_roundMany D_roundOver D_round D_terms D_termLevel D_termAdd D_spot D_number D_reach D_edge D_by) 138 [(3, .int v3), (2, .int v2), (1, .int v1), (0, .ref (DA 0))] [.int s0] := by
  intro v3 v2 v1 s0 D_readLevels D_readAsked D_asked D_readKinds D_spot D_number hF
  unfold q_X7_item_138 at hF
  refine jj_istore hJ dX7_item_138 (Nat.le_of_ble_eq_true rfl) (lv' := [(4, .int s0), (3, .int v3), (2, .int v2), (1, .int v1), (0, .ref (DA 0))]) rfl ?_
  refine jj_iload_n hJ dX7_item_140 2 rfl rfl ?_
  refine jj_aload_n hJ dX7_item_141 4 rfl rfl ?_
  refine jj_get hJ lay_X7 dX7_item_142 0 3 rfl rfl (Nat.le_of_ble_eq_true rfl) kw_134 rfl ?_
  refine jj_icmp_ge hJ 168 dX7_item_145 rfl (fun c1 => ?_) (fun c1 => ?_)
  · replace hF := ip c1 hF
    refine jj_iconst hJ dX7_item_168 ic_0 ?_
    cases Option.some.inj hF
    exact jj_zret hJ (Or.inl rfl) dX7_item_169
  · replace hF := iq c1 hF
    refine jj_iload_n hJ dX7_item_148 1 rfl rfl ?_
    refine jj_aload_n hJ dX7_item_149 4 rfl rfl ?_
    refine jj_get hJ lay_X7 dX7_item_150 0 3 rfl rfl (Nat.le_of_ble_eq_true rfl) kw_134 rfl ?_
    refine jj_icmp_ge hJ 168 dX7_item_153 rfl (fun c2 => ?_) (fun c2 => ?_)
    · replace hF := ip c2 hF
      refine jj_iconst hJ dX7_item_168 ic_0 ?_
      cases Option.some.inj hF
      exact jj_zret hJ (Or.inl rfl) dX7_item_169
    · replace hF := iq c2 hF
      refine jj_iload_n hJ dX7_item_156 2 rfl rfl ?_
      refine jj_iload_n hJ dX7_item_157 1 rfl rfl ?_
      refine jj_icmp_eq hJ 168 dX7_item_158 rfl (fun c3 => ?_) (fun c3 => ?_)
      · replace hF := ip c3 hF
        refine jj_iconst hJ dX7_item_168 ic_0 ?_
        cases Option.some.inj hF
        exact jj_zret hJ (Or.inl rfl) dX7_item_169
      · replace hF := iq c3 hF
        refine jj_iload hJ dX7_item_161 0 rfl ?_
        refine jj_bipush hJ dX7_item_163 bp_9 ?_
        refine jj_icmp_le hJ 170 dX7_item_165 rfl (fun c4 => ?_) (fun c4 => ?_)
        · replace hF := ip c4 hF
          refine jj_aload_n hJ dX7_item_170 4 rfl rfl ?_
          refine jj_iload_n hJ dX7_item_171 2 rfl rfl ?_
          refine jj_iload_n hJ dX7_item_172 3 rfl rfl ?_
          refine jj_bipush hJ dX7_item_173 bp_99 ?_
          refine jj_icmp_ne hJ 183 dX7_item_175 rfl (fun c5 => ?_) (fun c5 => ?_)
          · replace hF := iq c5 hF
            refine jj_iload hJ dX7_item_183 0 rfl ?_
            refine jj_ineg hJ dX7_item_185 ?_
            refine jj_iload_n hJ dX7_item_186 1 rfl rfl ?_
            obtain ⟨⟨g7, g8⟩, h6, hF⟩ := ob hF
            refine jj_callV hJ (c_X7_askedIs l D cI cS cII DA D_length D_text D_levels D_readLevels D_readAsked D_asked D_readKinds D_now D_before D_undoMany D_kept D_keptMany D_refused D_roundMany D_roundOver D_round D_terms D_termLevel D_termAdd D_spot D_number D_reach D_edge D_by v2 (-s0) v3 h6) dX7_item_187 kw_163 ⟨Nat.le_of_ble_eq_true rfl, Nat.le_of_ble_eq_true rfl, rfl, rfl⟩ kw_162 kw_164 kw_165 0 rfl rfl rfl rfl (Nat.le_of_ble_eq_true rfl) [0, 1, 2, 3, 4, 5, 6, 7, 8, 9, 10, 11, 12, 13] rfl rfl (wn := (W_X7_item cI cS cII DA D_length D_text D_levels D_readLevels g7 g8 D_readKinds D_now D_before D_undoMany D_kept D_keptMany D_refused D_roundMany D_roundOver D_round D_terms D_termLevel D_termAdd D_spot D_number D_reach D_edge D_by)) (jNew_sel rfl [some 0, some 1, some 2, some 3, some 4, some 5, some 6, some 7, some 8, some 9, some 10, some 11, some 12, some 13] (by decide +kernel) rfl) ?_
            refine jj_iconst hJ dX7_item_190 ic_1 ?_
            cases Option.some.inj hF
            exact jj_zret hJ (Or.inr rfl) dX7_item_191
          · replace hF := ip c5 hF
            refine jj_iload hJ dX7_item_178 0 rfl ?_
            refine jj_goto hJ 186 dX7_item_180 rfl ?_
            refine jj_iload_n hJ dX7_item_186 1 rfl rfl ?_
            obtain ⟨⟨g10, g11⟩, h9, hF⟩ := ob hF
            refine jj_callV hJ (c_X7_askedIs l D cI cS cII DA D_length D_text D_levels D_readLevels D_readAsked D_asked D_readKinds D_now D_before D_undoMany D_kept D_keptMany D_refused D_roundMany D_roundOver D_round D_terms D_termLevel D_termAdd D_spot D_number D_reach D_edge D_by v2 s0 v3 h9) dX7_item_187 kw_163 ⟨Nat.le_of_ble_eq_true rfl, Nat.le_of_ble_eq_true rfl, rfl, rfl⟩ kw_162 kw_164 kw_165 0 rfl rfl rfl rfl (Nat.le_of_ble_eq_true rfl) [0, 1, 2, 3, 4, 5, 6, 7, 8, 9, 10, 11, 12, 13] rfl rfl (wn := (W_X7_item cI cS cII DA D_length D_text D_levels D_readLevels g10 g11 D_readKinds D_now D_before D_undoMany D_kept D_keptMany D_refused D_roundMany D_roundOver D_round D_terms D_termLevel D_termAdd D_spot D_number D_reach D_edge D_by)) (jNew_sel rfl [some 0, some 1, some 2, some 3, some 4, some 5, some 6, some 7, some 8, some 9, some 10, some 11, some 12, some 13] (by decide +kernel) rfl) ?_
            refine jj_iconst hJ dX7_item_190 ic_1 ?_
            cases Option.some.inj hF
            exact jj_zret hJ (Or.inr rfl) dX7_item_191
        · replace hF := iq c4 hF
          refine jj_iconst hJ dX7_item_168 ic_0 ?_
          cases Option.some.inj hF
          exact jj_zret hJ (Or.inl rfl) dX7_item_169
def q_X7_item_116 (D_length : Int32) (D_text : Nat → Int32)  (v2 : Int32) (v1 : Int32) (s0 : Int32) (D_readLevels : Int32) (D_readAsked : Int32) (D_asked : Nat → Int32) (D_readKinds : Nat → Int32) (D_spot : Int32) (D_number : Nat → Int32) : Option (Int32 × Int32 × Int32 × (Nat → Int32) × (Nat → Int32) × Int32 × (Nat → Int32)) := if v1 = 99 then ((rd D_number 3 1).bind fun x4 => q_X7_item_138 D_length D_text s0 v2 v1 x4 D_readLevels D_readAsked D_asked D_readKinds D_spot D_number) else ((rd D_number 3 2).bind fun x2 => q_X7_item_138 D_length D_text s0 v2 v1 x2 D_readLevels D_readAsked D_asked D_readKinds D_spot D_number)
set_option maxRecDepth 100000 in
theorem w_X7_item_116 {D_length : Int32} {D_text : Nat → Int32} {D_levels : Int32} {D_now : Nat → Int32} {D_before : Nat → Int32} {D_undoMany : Int32} {D_kept : Nat → Int32} {D_keptMany : Int32} {D_refused : Int32} {D_roundMany : Int32} {D_roundOver : Int32} {D_round : Nat → Int32} {D_terms : Int32} {D_termLevel : Nat → Int32} {D_termAdd : Nat → Int32} {D_reach : Nat → Int32} {D_edge : Nat → Int32} {D_by : Nat → Int32}   (hJ : jJ l cX7_item 5 D (tysU cI cS cII) RX7 Rm_X7_item (some .boolean) A (some z_r) (W_X7_item cI cS cII DA D_length D_text D_levels z_D_readLevels z_D_readAsked z_D_asked z_D_readKinds D_now D_before D_undoMany D_kept D_keptMany D_refused D_roundMany D_roundOver D_round D_terms D_termLevel D_termAdd z_D_spot z_D_number D_reach D_edge D_by) J)  : ∀ (v2 : Int32) (v1 : Int32) (s0 : Int32) (D_readLevels : Int32) (D_readAsked : Int32) (D_asked : Nat → Int32) (D_readKinds : Nat → Int32) (D_spot : Int32) (D_number : Nat → Int32), q_X7_item_116 D_length D_text v2 v1 s0 D_readLevels D_readAsked D_asked D_readKinds D_spot D_number = some (z_r, z_D_readLevels, z_D_readAsked, z_D_asked, z_D_readKinds, z_D_spot, z_D_number) → J (W_X7_item cI cS cII DA D_length D_text D_levels D_readLevels D_readAsked D_asked D_readKinds D_now D_before D_undoMany D_kept D_keptMany D_refused D_roundMany D_roundOver D_round D_terms D_termLevel D_termAdd D_spot D_number D_reach D_edge D_by) 116 [(2, .int v2), (1, .int v1), (0, .ref (DA 0))] [.int s0] := by
  intro v2 v1 s0 D_readLevels D_readAsked D_asked D_readKinds D_spot D_number hF
  unfold q_X7_item_116 at hF
  refine jj_istore_n hJ dX7_item_116 rfl (Nat.le_of_ble_eq_true rfl) (lv' := [(3, .int s0), (2, .int v2), (1, .int v1), (0, .ref (DA 0))]) rfl ?_
  refine jj_iload_n hJ dX7_item_117 2 rfl rfl ?_
  refine jj_bipush hJ dX7_item_118 bp_99 ?_
  refine jj_icmp_ne hJ 132 dX7_item_120 rfl (fun c1 => ?_) (fun c1 => ?_)
  · replace hF := iq c1 hF
    refine jj_aload_n hJ dX7_item_132 3 rfl rfl ?_
    refine jj_get hJ lay_X7 dX7_item_133 0 20 rfl rfl (Nat.le_of_ble_eq_true rfl) kw_153 rfl ?_
    refine jj_iconst hJ dX7_item_136 ic_2 ?_
    obtain ⟨x2, h3, hF⟩ := ob hF
    refine jj_iald hJ dX7_item_137 10 0 rfl rfl h3 ?_
    exact w_X7_item_138 hJ  s0 v2 v1 x2 D_readLevels D_readAsked D_asked D_readKinds D_spot D_number hF
  · replace hF := ip c1 hF
    refine jj_aload_n hJ dX7_item_123 3 rfl rfl ?_
    refine jj_get hJ lay_X7 dX7_item_124 0 20 rfl rfl (Nat.le_of_ble_eq_true rfl) kw_153 rfl ?_
    refine jj_iconst hJ dX7_item_127 ic_1 ?_
    obtain ⟨x4, h5, hF⟩ := ob hF
    refine jj_iald hJ dX7_item_128 10 0 rfl rfl h5 ?_
    refine jj_goto hJ 138 dX7_item_129 rfl ?_
    exact w_X7_item_138 hJ  s0 v2 v1 x4 D_readLevels D_readAsked D_asked D_readKinds D_spot D_number hF
def q_X7_item_78 (D_length : Int32) (D_text : Nat → Int32)  (v1 : Int32) (D_readLevels : Int32) (D_readAsked : Int32) (D_asked : Nat → Int32) (D_readKinds : Nat → Int32) (D_spot : Int32) (D_number : Nat → Int32) : Option (Int32 × Int32 × Int32 × (Nat → Int32) × (Nat → Int32) × Int32 × (Nat → Int32)) := (p_X7_numbers D_length D_text D_spot D_number 3).bind fun (r2, g3, g4) => if r2 = 0 then (some (0, D_readLevels, D_readAsked, D_asked, D_readKinds, g3, g4)) else ((rd g4 3 0).bind fun x6 => if v1 = 99 then ((rd g4 3 2).bind fun x11 => q_X7_item_116 D_length D_text x6 v1 x11 D_readLevels D_readAsked D_asked D_readKinds g3 g4) else ((rd g4 3 1).bind fun x9 => q_X7_item_116 D_length D_text x6 v1 x9 D_readLevels D_readAsked D_asked D_readKinds g3 g4))
set_option maxRecDepth 100000 in
theorem w_X7_item_78 {D_length : Int32} {D_text : Nat → Int32} {D_levels : Int32} {D_now : Nat → Int32} {D_before : Nat → Int32} {D_undoMany : Int32} {D_kept : Nat → Int32} {D_keptMany : Int32} {D_refused : Int32} {D_roundMany : Int32} {D_roundOver : Int32} {D_round : Nat → Int32} {D_terms : Int32} {D_termLevel : Nat → Int32} {D_termAdd : Nat → Int32} {D_reach : Nat → Int32} {D_edge : Nat → Int32} {D_by : Nat → Int32}   (hJ : jJ l cX7_item 5 D (tysU cI cS cII) RX7 Rm_X7_item (some .boolean) A (some z_r) (W_X7_item cI cS cII DA D_length D_text D_levels z_D_readLevels z_D_readAsked z_D_asked z_D_readKinds D_now D_before D_undoMany D_kept D_keptMany D_refused D_roundMany D_roundOver D_round D_terms D_termLevel D_termAdd z_D_spot z_D_number D_reach D_edge D_by) J)  : ∀ (v1 : Int32) (D_readLevels : Int32) (D_readAsked : Int32) (D_asked : Nat → Int32) (D_readKinds : Nat → Int32) (D_spot : Int32) (D_number : Nat → Int32), q_X7_item_78 D_length D_text v1 D_readLevels D_readAsked D_asked D_readKinds D_spot D_number = some (z_r, z_D_readLevels, z_D_readAsked, z_D_asked, z_D_readKinds, z_D_spot, z_D_number) → J (W_X7_item cI cS cII DA D_length D_text D_levels D_readLevels D_readAsked D_asked D_readKinds D_now D_before D_undoMany D_kept D_keptMany D_refused D_roundMany D_roundOver D_round D_terms D_termLevel D_termAdd D_spot D_number D_reach D_edge D_by) 78 [(1, .int v1), (0, .ref (DA 0))] [] := by
  intro v1 D_readLevels D_readAsked D_asked D_readKinds D_spot D_number hF
  unfold q_X7_item_78 at hF
  refine jj_aload_n hJ dX7_item_78 1 rfl rfl ?_
  refine jj_iconst hJ dX7_item_79 ic_3 ?_
  obtain ⟨⟨r2, g3, g4⟩, h1, hF⟩ := ob hF
  refine jj_callV hJ (c_X7_numbers l D cI cS cII DA D_length D_text D_levels D_readLevels D_readAsked D_asked D_readKinds D_now D_before D_undoMany D_kept D_keptMany D_refused D_roundMany D_roundOver D_round D_terms D_termLevel D_termAdd D_spot D_number D_reach D_edge D_by 3 h1) dX7_item_80 kw_155 ⟨Nat.le_of_ble_eq_true rfl, Nat.le_of_ble_eq_true rfl, rfl, rfl⟩ kw_154 kw_156 kw_157 0 rfl rfl rfl rfl (Nat.le_of_ble_eq_true rfl) [0, 1, 2, 3, 4, 5, 6, 7, 8, 9, 10, 11, 12, 13] rfl rfl (wn := (W_X7_item cI cS cII DA D_length D_text D_levels D_readLevels D_readAsked D_asked D_readKinds D_now D_before D_undoMany D_kept D_keptMany D_refused D_roundMany D_roundOver D_round D_terms D_termLevel D_termAdd g3 g4 D_reach D_edge D_by)) (jNew_sel rfl [some 0, some 1, some 2, some 3, some 4, some 5, some 6, some 7, some 8, some 9, some 10, some 11, some 12, some 13] (by decide +kernel) rfl) ?_
  refine jj_if_ne hJ 88 dX7_item_83 rfl (fun c5 => ?_) (fun c5 => ?_)
  · replace hF := iq c5 hF
    refine jj_aload_n hJ dX7_item_88 1 rfl rfl ?_
    refine jj_get hJ lay_X7 dX7_item_89 0 20 rfl rfl (Nat.le_of_ble_eq_true rfl) kw_153 rfl ?_
    refine jj_iconst hJ dX7_item_92 ic_0 ?_
    obtain ⟨x6, h7, hF⟩ := ob hF
    refine jj_iald hJ dX7_item_93 10 0 rfl rfl h7 ?_
    refine jj_istore_n hJ dX7_item_94 rfl (Nat.le_of_ble_eq_true rfl) (lv' := [(2, .int x6), (1, .int v1), (0, .ref (DA 0))]) rfl ?_
    refine jj_iload_n hJ dX7_item_95 1 rfl rfl ?_
    refine jj_bipush hJ dX7_item_96 bp_99 ?_
    refine jj_icmp_ne hJ 110 dX7_item_98 rfl (fun c8 => ?_) (fun c8 => ?_)
    · replace hF := iq c8 hF
      refine jj_aload_n hJ dX7_item_110 2 rfl rfl ?_
      refine jj_get hJ lay_X7 dX7_item_111 0 20 rfl rfl (Nat.le_of_ble_eq_true rfl) kw_153 rfl ?_
      refine jj_iconst hJ dX7_item_114 ic_1 ?_
      obtain ⟨x9, h10, hF⟩ := ob hF
      refine jj_iald hJ dX7_item_115 10 0 rfl rfl h10 ?_
      exact w_X7_item_116 hJ  x6 v1 x9 D_readLevels D_readAsked D_asked D_readKinds g3 g4 hF
    · replace hF := ip c8 hF
      refine jj_aload_n hJ dX7_item_101 2 rfl rfl ?_
      refine jj_get hJ lay_X7 dX7_item_102 0 20 rfl rfl (Nat.le_of_ble_eq_true rfl) kw_153 rfl ?_
      refine jj_iconst hJ dX7_item_105 ic_2 ?_
      obtain ⟨x11, h12, hF⟩ := ob hF
      refine jj_iald hJ dX7_item_106 10 0 rfl rfl h12 ?_
      refine jj_goto hJ 116 dX7_item_107 rfl ?_
      exact w_X7_item_116 hJ  x6 v1 x11 D_readLevels D_readAsked D_asked D_readKinds g3 g4 hF
  · replace hF := ip c5 hF
    refine jj_iconst hJ dX7_item_86 ic_0 ?_
    cases Option.some.inj hF
    exact jj_zret hJ (Or.inl rfl) dX7_item_87
def p_X7_item (D_length : Int32) (D_text : Nat → Int32) (D_readLevels : Int32) (D_readAsked : Int32) (D_asked : Nat → Int32) (D_readKinds : Nat → Int32) (D_spot : Int32) (D_number : Nat → Int32) : Option (Int32 × Int32 × Int32 × (Nat → Int32) × (Nat → Int32) × Int32 × (Nat → Int32)) := (p_X7_letterAt D_length D_text D_spot).bind fun r2 => if r2 = 118 then ((p_X7_numbers D_length D_text (D_spot + 1) D_number 1).bind fun (r7, g8, g9) => if r7 = 0 then (some (0, D_readLevels, D_readAsked, D_asked, D_readKinds, g8, g9)) else (if D_readLevels = 10 then (some (0, D_readLevels, D_readAsked, D_asked, D_readKinds, g8, g9)) else ((rd g9 3 0).bind fun x12 => if x12 ≤ 3 then ((rd g9 3 0).bind fun x15 => (p_X7_levelIs D_readLevels D_readKinds x15).bind fun (g18, g19) => some (1, g18, D_readAsked, D_asked, g19, g8, g9)) else (some (0, D_readLevels, D_readAsked, D_asked, D_readKinds, g8, g9))))) else (if r2 = 99 then (q_X7_item_78 D_length D_text r2 D_readLevels D_readAsked D_asked D_readKinds (D_spot + 1) D_number) else (if r2 = 100 then (q_X7_item_78 D_length D_text r2 D_readLevels D_readAsked D_asked D_readKinds (D_spot + 1) D_number) else (some (0, D_readLevels, D_readAsked, D_asked, D_readKinds, D_spot + 1, D_number))))
end
set_option maxRecDepth 100000 in
theorem c_X7_item (l : Launch) (D : va_G) (cI cS cII : ClassId) (DA : Nat → Nat) (D_length : Int32) (D_text : Nat → Int32) (D_levels : Int32) (D_readLevels : Int32) (D_readAsked : Int32) (D_asked : Nat → Int32) (D_readKinds : Nat → Int32) (D_now : Nat → Int32) (D_before : Nat → Int32) (D_undoMany : Int32) (D_kept : Nat → Int32) (D_keptMany : Int32) (D_refused : Int32) (D_roundMany : Int32) (D_roundOver : Int32) (D_round : Nat → Int32) (D_terms : Int32) (D_termLevel : Nat → Int32) (D_termAdd : Nat → Int32) (D_spot : Int32) (D_number : Nat → Int32) (D_reach : Nat → Int32) (D_edge : Nat → Int32) (D_by : Nat → Int32)  {z_r : Int32} {z_D_readLevels : Int32} {z_D_readAsked : Int32} {z_D_asked : Nat → Int32} {z_D_readKinds : Nat → Int32} {z_D_spot : Int32} {z_D_number : Nat → Int32} (hF : p_X7_item D_length D_text D_readLevels D_readAsked D_asked D_readKinds D_spot D_number = some (z_r, z_D_readLevels, z_D_readAsked, z_D_asked, z_D_readKinds, z_D_spot, z_D_number)) : MJ l yX7_item cX7_item 5 (some .boolean) Rm_X7_item D (tysU cI cS cII) [.ref (DA 0)] (W_X7_item cI cS cII DA D_length D_text D_levels D_readLevels D_readAsked D_asked D_readKinds D_now D_before D_undoMany D_kept D_keptMany D_refused D_roundMany D_roundOver D_round D_terms D_termLevel D_termAdd D_spot D_number D_reach D_edge D_by) (some z_r) (W_X7_item cI cS cII DA D_length D_text D_levels z_D_readLevels z_D_readAsked z_D_asked z_D_readKinds D_now D_before D_undoMany D_kept D_keptMany D_refused D_roundMany D_roundOver D_round D_terms D_termLevel D_termAdd z_D_spot z_D_number D_reach D_edge D_by) := by
  refine mj_of (own := RX7) (by decide) rfl (Nat.le_of_ble_eq_true rfl) (fun J hJ => ?_)
  show J (W_X7_item cI cS cII DA D_length D_text D_levels D_readLevels D_readAsked D_asked D_readKinds D_now D_before D_undoMany D_kept D_keptMany D_refused D_roundMany D_roundOver D_round D_terms D_termLevel D_termAdd D_spot D_number D_reach D_edge D_by) 0 [(0, .ref (DA 0))] []
  unfold p_X7_item at hF
  refine jj_aload_n hJ dX7_item_0 0 rfl rfl ?_
  refine jj_aload_n hJ dX7_item_1 0 rfl rfl ?_
  refine jj_get hJ lay_X7 dX7_item_2 0 19 rfl rfl (Nat.le_of_ble_eq_true rfl) kw_145 rfl ?_
  obtain ⟨r2, h1, hF⟩ := ob hF
  refine jj_callV0 hJ (c_X7_letterAt l D cI cS cII DA D_length D_text D_levels D_readLevels D_readAsked D_asked D_readKinds D_now D_before D_undoMany D_kept D_keptMany D_refused D_roundMany D_roundOver D_round D_terms D_termLevel D_termAdd D_spot D_number D_reach D_edge D_by D_spot h1) dX7_item_5 kw_147 ⟨Nat.le_of_ble_eq_true rfl, Nat.le_of_ble_eq_true rfl, rfl, rfl⟩ kw_146 kw_148 kw_149 0 rfl rfl rfl rfl (Nat.le_of_ble_eq_true rfl) [0, 1, 2, 3, 4, 5, 6, 7, 8, 9, 10, 11, 12, 13] rfl rfl ?_
  refine jj_istore_n hJ dX7_item_8 rfl (Nat.le_of_ble_eq_true rfl) (lv' := [(1, .int r2), (0, .ref (DA 0))]) rfl ?_
  refine jj_aload_n hJ dX7_item_9 1 rfl rfl ?_
  refine jj_dup hJ dX7_item_10 rfl ?_
  refine jj_get hJ lay_X7 dX7_item_11 0 19 rfl rfl (Nat.le_of_ble_eq_true rfl) kw_145 rfl ?_
  refine jj_iconst hJ dX7_item_14 ic_1 ?_
  refine jj_iadd hJ dX7_item_15 ?_
  refine jj_puti hJ lay_X7 tyX7 tyX7_ok nmX7 dX7_item_16 0 19 rfl rfl (Nat.le_of_ble_eq_true rfl) kw_145 rfl rfl (Nat.le_of_ble_eq_true rfl) (wn := (W_X7_item cI cS cII DA D_length D_text D_levels D_readLevels D_readAsked D_asked D_readKinds D_now D_before D_undoMany D_kept D_keptMany D_refused D_roundMany D_roundOver D_round D_terms D_termLevel D_termAdd (D_spot + 1) D_number D_reach D_edge D_by)) rfl ?_
  refine jj_iload_n hJ dX7_item_19 0 rfl rfl ?_
  refine jj_bipush hJ dX7_item_20 bp_118 ?_
  refine jj_icmp_ne hJ 66 dX7_item_22 rfl (fun c3 => ?_) (fun c3 => ?_)
  · replace hF := iq c3 hF
    refine jj_iload_n hJ dX7_item_66 0 rfl rfl ?_
    refine jj_bipush hJ dX7_item_67 bp_99 ?_
    refine jj_icmp_eq hJ 78 dX7_item_69 rfl (fun c4 => ?_) (fun c4 => ?_)
    · replace hF := ip c4 hF
      exact w_X7_item_78 hJ  r2 D_readLevels D_readAsked D_asked D_readKinds (D_spot + 1) D_number hF
    · replace hF := iq c4 hF
      refine jj_iload_n hJ dX7_item_72 0 rfl rfl ?_
      refine jj_bipush hJ dX7_item_73 bp_100 ?_
      refine jj_icmp_ne hJ 86 dX7_item_75 rfl (fun c5 => ?_) (fun c5 => ?_)
      · replace hF := iq c5 hF
        refine jj_iconst hJ dX7_item_86 ic_0 ?_
        cases Option.some.inj hF
        exact jj_zret hJ (Or.inl rfl) dX7_item_87
      · replace hF := ip c5 hF
        exact w_X7_item_78 hJ  r2 D_readLevels D_readAsked D_asked D_readKinds (D_spot + 1) D_number hF
  · replace hF := ip c3 hF
    refine jj_aload_n hJ dX7_item_25 1 rfl rfl ?_
    refine jj_iconst hJ dX7_item_26 ic_1 ?_
    obtain ⟨⟨r7, g8, g9⟩, h6, hF⟩ := ob hF
    refine jj_callV hJ (c_X7_numbers l D cI cS cII DA D_length D_text D_levels D_readLevels D_readAsked D_asked D_readKinds D_now D_before D_undoMany D_kept D_keptMany D_refused D_roundMany D_roundOver D_round D_terms D_termLevel D_termAdd (D_spot + 1) D_number D_reach D_edge D_by 1 h6) dX7_item_27 kw_155 ⟨Nat.le_of_ble_eq_true rfl, Nat.le_of_ble_eq_true rfl, rfl, rfl⟩ kw_154 kw_156 kw_157 0 rfl rfl rfl rfl (Nat.le_of_ble_eq_true rfl) [0, 1, 2, 3, 4, 5, 6, 7, 8, 9, 10, 11, 12, 13] rfl rfl (wn := (W_X7_item cI cS cII DA D_length D_text D_levels D_readLevels D_readAsked D_asked D_readKinds D_now D_before D_undoMany D_kept D_keptMany D_refused D_roundMany D_roundOver D_round D_terms D_termLevel D_termAdd g8 g9 D_reach D_edge D_by)) (jNew_sel rfl [some 0, some 1, some 2, some 3, some 4, some 5, some 6, some 7, some 8, some 9, some 10, some 11, some 12, some 13] (by decide +kernel) rfl) ?_
    refine jj_if_eq hJ 52 dX7_item_30 rfl (fun c10 => ?_) (fun c10 => ?_)
    · replace hF := ip c10 hF
      refine jj_iconst hJ dX7_item_52 ic_0 ?_
      cases Option.some.inj hF
      exact jj_zret hJ (Or.inl rfl) dX7_item_53
    · replace hF := iq c10 hF
      refine jj_aload_n hJ dX7_item_33 1 rfl rfl ?_
      refine jj_get hJ lay_X7 dX7_item_34 0 3 rfl rfl (Nat.le_of_ble_eq_true rfl) kw_134 rfl ?_
      refine jj_bipush hJ dX7_item_37 bp_10 ?_
      refine jj_icmp_eq hJ 52 dX7_item_39 rfl (fun c11 => ?_) (fun c11 => ?_)
      · replace hF := ip c11 hF
        refine jj_iconst hJ dX7_item_52 ic_0 ?_
        cases Option.some.inj hF
        exact jj_zret hJ (Or.inl rfl) dX7_item_53
      · replace hF := iq c11 hF
        refine jj_aload_n hJ dX7_item_42 1 rfl rfl ?_
        refine jj_get hJ lay_X7 dX7_item_43 0 20 rfl rfl (Nat.le_of_ble_eq_true rfl) kw_153 rfl ?_
        refine jj_iconst hJ dX7_item_46 ic_0 ?_
        obtain ⟨x12, h13, hF⟩ := ob hF
        refine jj_iald hJ dX7_item_47 10 0 rfl rfl h13 ?_
        refine jj_iconst hJ dX7_item_48 ic_3 ?_
        refine jj_icmp_le hJ 54 dX7_item_49 rfl (fun c14 => ?_) (fun c14 => ?_)
        · replace hF := ip c14 hF
          refine jj_aload_n hJ dX7_item_54 1 rfl rfl ?_
          refine jj_aload_n hJ dX7_item_55 1 rfl rfl ?_
          refine jj_get hJ lay_X7 dX7_item_56 0 20 rfl rfl (Nat.le_of_ble_eq_true rfl) kw_153 rfl ?_
          refine jj_iconst hJ dX7_item_59 ic_0 ?_
          obtain ⟨x15, h16, hF⟩ := ob hF
          refine jj_iald hJ dX7_item_60 10 0 rfl rfl h16 ?_
          obtain ⟨⟨g18, g19⟩, h17, hF⟩ := ob hF
          refine jj_callV hJ (c_X7_levelIs l D cI cS cII DA D_length D_text D_levels D_readLevels D_readAsked D_asked D_readKinds D_now D_before D_undoMany D_kept D_keptMany D_refused D_roundMany D_roundOver D_round D_terms D_termLevel D_termAdd g8 g9 D_reach D_edge D_by x15 h17) dX7_item_61 kw_159 ⟨Nat.le_of_ble_eq_true rfl, Nat.le_of_ble_eq_true rfl, rfl, rfl⟩ kw_158 kw_160 kw_161 0 rfl rfl rfl rfl (Nat.le_of_ble_eq_true rfl) [0, 1, 2, 3, 4, 5, 6, 7, 8, 9, 10, 11, 12, 13] rfl rfl (wn := (W_X7_item cI cS cII DA D_length D_text D_levels g18 D_readAsked D_asked g19 D_now D_before D_undoMany D_kept D_keptMany D_refused D_roundMany D_roundOver D_round D_terms D_termLevel D_termAdd g8 g9 D_reach D_edge D_by)) (jNew_sel rfl [some 0, some 1, some 2, some 3, some 4, some 5, some 6, some 7, some 8, some 9, some 10, some 11, some 12, some 13] (by decide +kernel) rfl) ?_
          refine jj_iconst hJ dX7_item_64 ic_1 ?_
          cases Option.some.inj hF
          exact jj_zret hJ (Or.inr rfl) dX7_item_65
        · replace hF := iq c14 hF
          refine jj_iconst hJ dX7_item_52 ic_0 ?_
          cases Option.some.inj hF
          exact jj_zret hJ (Or.inl rfl) dX7_item_53
section
def W_X7_readAll (cI cS cII : ClassId) (DA : Nat → Nat) (D_length : Int32) (D_text : Nat → Int32) (D_levels : Int32) (D_readLevels : Int32) (D_readAsked : Int32) (D_asked : Nat → Int32) (D_readKinds : Nat → Int32) (D_now : Nat → Int32) (D_before : Nat → Int32) (D_undoMany : Int32) (D_kept : Nat → Int32) (D_keptMany : Int32) (D_refused : Int32) (D_roundMany : Int32) (D_roundOver : Int32) (D_round : Nat → Int32) (D_terms : Int32) (D_termLevel : Nat → Int32) (D_termAdd : Nat → Int32) (D_spot : Int32) (D_number : Nat → Int32) (D_reach : Nat → Int32) (D_edge : Nat → Int32) (D_by : Nat → Int32) : va_W := [((DA 0), .inr (7, [.int D_length, .ref (DA 1), .int D_levels, .int D_readLevels, .int D_readAsked, .ref (DA 2), .ref (DA 3), .ref (DA 4), .ref (DA 5), .int D_undoMany, .ref (DA 6), .int D_keptMany, .int D_refused, .int D_roundMany, .int D_roundOver, .ref (DA 7), .int D_terms, .ref (DA 8), .ref (DA 9), .int D_spot, .ref (DA 10), .ref (DA 11), .ref (DA 12), .ref (DA 13)])), ((DA 1), .inl (cI, 200, .inl D_text)), ((DA 2), .inl (cI, 160, .inl D_asked)), ((DA 3), .inl (cI, 10, .inl D_readKinds)), ((DA 4), .inl (cI, 59, .inl D_now)), ((DA 5), .inl (cI, 472, .inl D_before)), ((DA 6), .inl (cI, 118, .inl D_kept)), ((DA 7), .inl (cI, 12, .inl D_round)), ((DA 8), .inl (cI, 6, .inl D_termLevel)), ((DA 9), .inl (cI, 6, .inl D_termAdd)), ((DA 10), .inl (cI, 3, .inl D_number)), ((DA 11), .inl (cI, 100, .inl D_reach)), ((DA 12), .inl (cI, 100, .inl D_edge)), ((DA 13), .inl (cI, 110, .inl D_by))]
abbrev Rm_X7_readAll : Room := { frames := 3, cells := 0, slots := 0, locals := 73 }
variable {l : Launch} {D : va_G} {cI cS cII : ClassId} {DA : Nat → Nat} {A : Nat → Prop} {J : jT}
variable {z_r : Int32} {z_D_readLevels : Int32} {z_D_readAsked : Int32} {z_D_asked : Nat → Int32} {z_D_readKinds : Nat → Int32} {z_D_spot : Int32} {z_D_number : Nat → Int32}
def q_X7_readAll_9 (D_length : Int32) (D_text : Nat → Int32)  : Nat → Int32 → Int32 → (Nat → Int32) → (Nat → Int32) → Int32 → (Nat → Int32) → Option (Int32 × Int32 × Int32 × (Nat → Int32) × (Nat → Int32) × Int32 × (Nat → Int32))
  | 0, _, _, _, _, _, _ => none
  | n + 1, D_readLevels, D_readAsked, D_asked, D_readKinds, D_spot, D_number => if D_length ≤ D_spot then (some ((-4), D_readLevels, D_readAsked, D_asked, D_readKinds, D_spot, D_number)) else ((p_X7_item D_length D_text D_readLevels D_readAsked D_asked D_readKinds D_spot D_number).bind fun (r3, g4, g5, g6, g7, g8, g9) => if r3 = 0 then (some (D_spot, g4, g5, g6, g7, g8, g9)) else (q_X7_readAll_9 D_length D_text n g4 g5 g6 g7 g8 g9))
set_option maxRecDepth 100000 in
theorem w_X7_readAll_9 {D_length : Int32} {D_text : Nat → Int32} {D_levels : Int32} {D_now : Nat → Int32} {D_before : Nat → Int32} {D_undoMany : Int32} {D_kept : Nat → Int32} {D_keptMany : Int32} {D_refused : Int32} {D_roundMany : Int32} {D_roundOver : Int32} {D_round : Nat → Int32} {D_terms : Int32} {D_termLevel : Nat → Int32} {D_termAdd : Nat → Int32} {D_reach : Nat → Int32} {D_edge : Nat → Int32} {D_by : Nat → Int32}   (hJ : jJ l cX7_readAll 2 D (tysU cI cS cII) RX7 Rm_X7_readAll (some .int) A (some z_r) (W_X7_readAll cI cS cII DA D_length D_text D_levels z_D_readLevels z_D_readAsked z_D_asked z_D_readKinds D_now D_before D_undoMany D_kept D_keptMany D_refused D_roundMany D_roundOver D_round D_terms D_termLevel D_termAdd z_D_spot z_D_number D_reach D_edge D_by) J)  : ∀ (n : Nat) (D_readLevels : Int32) (D_readAsked : Int32) (D_asked : Nat → Int32) (D_readKinds : Nat → Int32) (D_spot : Int32) (D_number : Nat → Int32), q_X7_readAll_9 D_length D_text n D_readLevels D_readAsked D_asked D_readKinds D_spot D_number = some (z_r, z_D_readLevels, z_D_readAsked, z_D_asked, z_D_readKinds, z_D_spot, z_D_number) → J (W_X7_readAll cI cS cII DA D_length D_text D_levels D_readLevels D_readAsked D_asked D_readKinds D_now D_before D_undoMany D_kept D_keptMany D_refused D_roundMany D_roundOver D_round D_terms D_termLevel D_termAdd D_spot D_number D_reach D_edge D_by) 9 [(0, .ref (DA 0))] [] := by
  intro n
  induction n with
  | zero =>
    intro D_readLevels D_readAsked D_asked D_readKinds D_spot D_number hF
    exact no_some (show (none : Option (Int32 × Int32 × Int32 × (Nat → Int32) × (Nat → Int32) × Int32 × (Nat → Int32))) = some (z_r, z_D_readLevels, z_D_readAsked, z_D_asked, z_D_readKinds, z_D_spot, z_D_number) from hF)
  | succ n ih =>
    intro D_readLevels D_readAsked D_asked D_readKinds D_spot D_number hF
    rw [q_X7_readAll_9.eq_2] at hF
    refine jj_aload_n hJ dX7_readAll_9 0 rfl rfl ?_
    refine jj_get hJ lay_X7 dX7_readAll_10 0 19 rfl rfl (Nat.le_of_ble_eq_true rfl) kw_145 rfl ?_
    refine jj_aload_n hJ dX7_readAll_13 0 rfl rfl ?_
    refine jj_get hJ lay_X7 dX7_readAll_14 0 0 rfl rfl (Nat.le_of_ble_eq_true rfl) kw_143 rfl ?_
    refine jj_icmp_ge hJ 37 dX7_readAll_17 rfl (fun c1 => ?_) (fun c1 => ?_)
    · replace hF := ip c1 hF
      refine jj_bipush hJ dX7_readAll_37 bp_m4 ?_
      cases Option.some.inj hF
      exact jj_iret hJ dX7_readAll_39
    · replace hF := iq c1 hF
      refine jj_aload_n hJ dX7_readAll_20 0 rfl rfl ?_
      refine jj_get hJ lay_X7 dX7_readAll_21 0 19 rfl rfl (Nat.le_of_ble_eq_true rfl) kw_145 rfl ?_
      refine jj_istore_n hJ dX7_readAll_24 rfl (Nat.le_of_ble_eq_true rfl) (lv' := [(1, .int D_spot), (0, .ref (DA 0))]) rfl ?_
      refine jj_aload_n hJ dX7_readAll_25 1 rfl rfl ?_
      obtain ⟨⟨r3, g4, g5, g6, g7, g8, g9⟩, h2, hF⟩ := ob hF
      refine jj_callV hJ (c_X7_item l D cI cS cII DA D_length D_text D_levels D_readLevels D_readAsked D_asked D_readKinds D_now D_before D_undoMany D_kept D_keptMany D_refused D_roundMany D_roundOver D_round D_terms D_termLevel D_termAdd D_spot D_number D_reach D_edge D_by  h2) dX7_readAll_26 kw_171 ⟨Nat.le_of_ble_eq_true rfl, Nat.le_of_ble_eq_true rfl, rfl, rfl⟩ kw_170 kw_172 kw_173 0 rfl rfl rfl rfl (Nat.le_of_ble_eq_true rfl) [0, 1, 2, 3, 4, 5, 6, 7, 8, 9, 10, 11, 12, 13] rfl rfl (wn := (W_X7_readAll cI cS cII DA D_length D_text D_levels g4 g5 g6 g7 D_now D_before D_undoMany D_kept D_keptMany D_refused D_roundMany D_roundOver D_round D_terms D_termLevel D_termAdd g8 g9 D_reach D_edge D_by)) (jNew_sel rfl [some 0, some 1, some 2, some 3, some 4, some 5, some 6, some 7, some 8, some 9, some 10, some 11, some 12, some 13] (by decide +kernel) rfl) ?_
      refine jj_if_ne hJ 34 dX7_readAll_29 rfl (fun c10 => ?_) (fun c10 => ?_)
      · replace hF := iq c10 hF
        refine jj_goto hJ 9 dX7_readAll_34 rfl ?_
        refine jj_lv hJ [1] (lv' := [(0, .ref (DA 0))]) rfl ?_
        exact ih g4 g5 g6 g7 g8 g9 hF
      · replace hF := ip c10 hF
        refine jj_iload_n hJ dX7_readAll_32 0 rfl rfl ?_
        cases Option.some.inj hF
        exact jj_iret hJ dX7_readAll_33
def p_X7_readAll (D_length : Int32) (D_text : Nat → Int32) (D_readLevels : Int32) (D_readAsked : Int32) (D_asked : Nat → Int32) (D_readKinds : Nat → Int32) (D_spot : Int32) (D_number : Nat → Int32) : Option (Int32 × Int32 × Int32 × (Nat → Int32) × (Nat → Int32) × Int32 × (Nat → Int32)) := (p_X7_readNone D_readLevels D_readAsked).bind fun (g2, g3) => q_X7_readAll_9 D_length D_text FU g2 g3 D_asked D_readKinds 0 D_number
end
set_option maxRecDepth 100000 in
theorem c_X7_readAll (l : Launch) (D : va_G) (cI cS cII : ClassId) (DA : Nat → Nat) (D_length : Int32) (D_text : Nat → Int32) (D_levels : Int32) (D_readLevels : Int32) (D_readAsked : Int32) (D_asked : Nat → Int32) (D_readKinds : Nat → Int32) (D_now : Nat → Int32) (D_before : Nat → Int32) (D_undoMany : Int32) (D_kept : Nat → Int32) (D_keptMany : Int32) (D_refused : Int32) (D_roundMany : Int32) (D_roundOver : Int32) (D_round : Nat → Int32) (D_terms : Int32) (D_termLevel : Nat → Int32) (D_termAdd : Nat → Int32) (D_spot : Int32) (D_number : Nat → Int32) (D_reach : Nat → Int32) (D_edge : Nat → Int32) (D_by : Nat → Int32)  {z_r : Int32} {z_D_readLevels : Int32} {z_D_readAsked : Int32} {z_D_asked : Nat → Int32} {z_D_readKinds : Nat → Int32} {z_D_spot : Int32} {z_D_number : Nat → Int32} (hF : p_X7_readAll D_length D_text D_readLevels D_readAsked D_asked D_readKinds D_spot D_number = some (z_r, z_D_readLevels, z_D_readAsked, z_D_asked, z_D_readKinds, z_D_spot, z_D_number)) : MJ l yX7_readAll cX7_readAll 2 (some .int) Rm_X7_readAll D (tysU cI cS cII) [.ref (DA 0)] (W_X7_readAll cI cS cII DA D_length D_text D_levels D_readLevels D_readAsked D_asked D_readKinds D_now D_before D_undoMany D_kept D_keptMany D_refused D_roundMany D_roundOver D_round D_terms D_termLevel D_termAdd D_spot D_number D_reach D_edge D_by) (some z_r) (W_X7_readAll cI cS cII DA D_length D_text D_levels z_D_readLevels z_D_readAsked z_D_asked z_D_readKinds D_now D_before D_undoMany D_kept D_keptMany D_refused D_roundMany D_roundOver D_round D_terms D_termLevel D_termAdd z_D_spot z_D_number D_reach D_edge D_by) := by
  refine mj_of (own := RX7) (by decide) rfl (Nat.le_of_ble_eq_true rfl) (fun J hJ => ?_)
  show J (W_X7_readAll cI cS cII DA D_length D_text D_levels D_readLevels D_readAsked D_asked D_readKinds D_now D_before D_undoMany D_kept D_keptMany D_refused D_roundMany D_roundOver D_round D_terms D_termLevel D_termAdd D_spot D_number D_reach D_edge D_by) 0 [(0, .ref (DA 0))] []
  unfold p_X7_readAll at hF
  refine jj_aload_n hJ dX7_readAll_0 0 rfl rfl ?_
  obtain ⟨⟨g2, g3⟩, h1, hF⟩ := ob hF
  refine jj_callV hJ (c_X7_readNone l D cI cS cII DA D_length D_text D_levels D_readLevels D_readAsked D_asked D_readKinds D_now D_before D_undoMany D_kept D_keptMany D_refused D_roundMany D_roundOver D_round D_terms D_termLevel D_termAdd D_spot D_number D_reach D_edge D_by  h1) dX7_readAll_1 kw_167 ⟨Nat.le_of_ble_eq_true rfl, Nat.le_of_ble_eq_true rfl, rfl, rfl⟩ kw_166 kw_168 kw_169 0 rfl rfl rfl rfl (Nat.le_of_ble_eq_true rfl) [0, 1, 2, 3, 4, 5, 6, 7, 8, 9, 10, 11, 12, 13] rfl rfl (wn := (W_X7_readAll cI cS cII DA D_length D_text D_levels g2 g3 D_asked D_readKinds D_now D_before D_undoMany D_kept D_keptMany D_refused D_roundMany D_roundOver D_round D_terms D_termLevel D_termAdd D_spot D_number D_reach D_edge D_by)) (jNew_sel rfl [some 0, some 1, some 2, some 3, some 4, some 5, some 6, some 7, some 8, some 9, some 10, some 11, some 12, some 13] (by decide +kernel) rfl) ?_
  refine jj_aload_n hJ dX7_readAll_4 0 rfl rfl ?_
  refine jj_iconst hJ dX7_readAll_5 ic_0 ?_
  refine jj_puti hJ lay_X7 tyX7 tyX7_ok nmX7 dX7_readAll_6 0 19 rfl rfl (Nat.le_of_ble_eq_true rfl) kw_145 rfl rfl (Nat.le_of_ble_eq_true rfl) (wn := (W_X7_readAll cI cS cII DA D_length D_text D_levels g2 g3 D_asked D_readKinds D_now D_before D_undoMany D_kept D_keptMany D_refused D_roundMany D_roundOver D_round D_terms D_termLevel D_termAdd 0 D_number D_reach D_edge D_by)) rfl ?_
  exact w_X7_readAll_9 hJ  FU g2 g3 D_asked D_readKinds 0 D_number hF
section
def W_X7_fault (cI cS cII : ClassId) (DA : Nat → Nat) (D_length : Int32) (D_text : Nat → Int32) (D_levels : Int32) (D_readLevels : Int32) (D_readAsked : Int32) (D_asked : Nat → Int32) (D_readKinds : Nat → Int32) (D_now : Nat → Int32) (D_before : Nat → Int32) (D_undoMany : Int32) (D_kept : Nat → Int32) (D_keptMany : Int32) (D_refused : Int32) (D_roundMany : Int32) (D_roundOver : Int32) (D_round : Nat → Int32) (D_terms : Int32) (D_termLevel : Nat → Int32) (D_termAdd : Nat → Int32) (D_spot : Int32) (D_number : Nat → Int32) (D_reach : Nat → Int32) (D_edge : Nat → Int32) (D_by : Nat → Int32) : va_W := [((DA 0), .inr (7, [.int D_length, .ref (DA 1), .int D_levels, .int D_readLevels, .int D_readAsked, .ref (DA 2), .ref (DA 3), .ref (DA 4), .ref (DA 5), .int D_undoMany, .ref (DA 6), .int D_keptMany, .int D_refused, .int D_roundMany, .int D_roundOver, .ref (DA 7), .int D_terms, .ref (DA 8), .ref (DA 9), .int D_spot, .ref (DA 10), .ref (DA 11), .ref (DA 12), .ref (DA 13)])), ((DA 1), .inl (cI, 200, .inl D_text)), ((DA 2), .inl (cI, 160, .inl D_asked)), ((DA 3), .inl (cI, 10, .inl D_readKinds)), ((DA 4), .inl (cI, 59, .inl D_now)), ((DA 5), .inl (cI, 472, .inl D_before)), ((DA 6), .inl (cI, 118, .inl D_kept)), ((DA 7), .inl (cI, 12, .inl D_round)), ((DA 8), .inl (cI, 6, .inl D_termLevel)), ((DA 9), .inl (cI, 6, .inl D_termAdd)), ((DA 10), .inl (cI, 3, .inl D_number)), ((DA 11), .inl (cI, 100, .inl D_reach)), ((DA 12), .inl (cI, 100, .inl D_edge)), ((DA 13), .inl (cI, 110, .inl D_by))]
abbrev Rm_X7_fault : Room := { frames := 4, cells := 0, slots := 0, locals := 94 }
variable {l : Launch} {D : va_G} {cI cS cII : ClassId} {DA : Nat → Nat} {A : Nat → Prop} {J : jT}
variable {z_r : Int32} {z_D_readLevels : Int32} {z_D_readAsked : Int32} {z_D_asked : Nat → Int32} {z_D_readKinds : Nat → Int32} {z_D_spot : Int32} {z_D_number : Nat → Int32}
def p_X7_fault (D_length : Int32) (D_text : Nat → Int32) (D_readLevels : Int32) (D_readAsked : Int32) (D_asked : Nat → Int32) (D_readKinds : Nat → Int32) (D_spot : Int32) (D_number : Nat → Int32) : Option (Int32 × Int32 × Int32 × (Nat → Int32) × (Nat → Int32) × Int32 × (Nat → Int32)) := (p_X7_readAll D_length D_text D_readLevels D_readAsked D_asked D_readKinds D_spot D_number).bind fun (r2, g3, g4, g5, g6, g7, g8) => some (r2, g3, g4, g5, g6, g7, g8)
end
set_option maxRecDepth 100000 in
theorem c_X7_fault (l : Launch) (D : va_G) (cI cS cII : ClassId) (DA : Nat → Nat) (D_length : Int32) (D_text : Nat → Int32) (D_levels : Int32) (D_readLevels : Int32) (D_readAsked : Int32) (D_asked : Nat → Int32) (D_readKinds : Nat → Int32) (D_now : Nat → Int32) (D_before : Nat → Int32) (D_undoMany : Int32) (D_kept : Nat → Int32) (D_keptMany : Int32) (D_refused : Int32) (D_roundMany : Int32) (D_roundOver : Int32) (D_round : Nat → Int32) (D_terms : Int32) (D_termLevel : Nat → Int32) (D_termAdd : Nat → Int32) (D_spot : Int32) (D_number : Nat → Int32) (D_reach : Nat → Int32) (D_edge : Nat → Int32) (D_by : Nat → Int32)  {z_r : Int32} {z_D_readLevels : Int32} {z_D_readAsked : Int32} {z_D_asked : Nat → Int32} {z_D_readKinds : Nat → Int32} {z_D_spot : Int32} {z_D_number : Nat → Int32} (hF : p_X7_fault D_length D_text D_readLevels D_readAsked D_asked D_readKinds D_spot D_number = some (z_r, z_D_readLevels, z_D_readAsked, z_D_asked, z_D_readKinds, z_D_spot, z_D_number)) : MJ l yX7_fault cX7_fault 1 (some .int) Rm_X7_fault D (tysU cI cS cII) [.ref (DA 0)] (W_X7_fault cI cS cII DA D_length D_text D_levels D_readLevels D_readAsked D_asked D_readKinds D_now D_before D_undoMany D_kept D_keptMany D_refused D_roundMany D_roundOver D_round D_terms D_termLevel D_termAdd D_spot D_number D_reach D_edge D_by) (some z_r) (W_X7_fault cI cS cII DA D_length D_text D_levels z_D_readLevels z_D_readAsked z_D_asked z_D_readKinds D_now D_before D_undoMany D_kept D_keptMany D_refused D_roundMany D_roundOver D_round D_terms D_termLevel D_termAdd z_D_spot z_D_number D_reach D_edge D_by) := by
  refine mj_of (own := RX7) (by decide) rfl (Nat.le_of_ble_eq_true rfl) (fun J hJ => ?_)
  show J (W_X7_fault cI cS cII DA D_length D_text D_levels D_readLevels D_readAsked D_asked D_readKinds D_now D_before D_undoMany D_kept D_keptMany D_refused D_roundMany D_roundOver D_round D_terms D_termLevel D_termAdd D_spot D_number D_reach D_edge D_by) 0 [(0, .ref (DA 0))] []
  unfold p_X7_fault at hF
  refine jj_aload_n hJ dX7_fault_0 0 rfl rfl ?_
  obtain ⟨⟨r2, g3, g4, g5, g6, g7, g8⟩, h1, hF⟩ := ob hF
  refine jj_callV hJ (c_X7_readAll l D cI cS cII DA D_length D_text D_levels D_readLevels D_readAsked D_asked D_readKinds D_now D_before D_undoMany D_kept D_keptMany D_refused D_roundMany D_roundOver D_round D_terms D_termLevel D_termAdd D_spot D_number D_reach D_edge D_by  h1) dX7_fault_1 kw_175 ⟨Nat.le_of_ble_eq_true rfl, Nat.le_of_ble_eq_true rfl, rfl, rfl⟩ kw_174 kw_176 kw_177 0 rfl rfl rfl rfl (Nat.le_of_ble_eq_true rfl) [0, 1, 2, 3, 4, 5, 6, 7, 8, 9, 10, 11, 12, 13] rfl rfl (wn := (W_X7_fault cI cS cII DA D_length D_text D_levels g3 g4 g5 g6 D_now D_before D_undoMany D_kept D_keptMany D_refused D_roundMany D_roundOver D_round D_terms D_termLevel D_termAdd g7 g8 D_reach D_edge D_by)) (jNew_sel rfl [some 0, some 1, some 2, some 3, some 4, some 5, some 6, some 7, some 8, some 9, some 10, some 11, some 12, some 13] (by decide +kernel) rfl) ?_
  cases Option.some.inj hF
  exact jj_iret hJ dX7_fault_4
section
def W_X7_weightTo (cI cS cII : ClassId) (DA : Nat → Nat) (D_length : Int32) (D_text : Nat → Int32) (D_levels : Int32) (D_readLevels : Int32) (D_readAsked : Int32) (D_asked : Nat → Int32) (D_readKinds : Nat → Int32) (D_now : Nat → Int32) (D_before : Nat → Int32) (D_undoMany : Int32) (D_kept : Nat → Int32) (D_keptMany : Int32) (D_refused : Int32) (D_roundMany : Int32) (D_roundOver : Int32) (D_round : Nat → Int32) (D_terms : Int32) (D_termLevel : Nat → Int32) (D_termAdd : Nat → Int32) (D_spot : Int32) (D_number : Nat → Int32) (D_reach : Nat → Int32) (D_edge : Nat → Int32) (D_by : Nat → Int32) : va_W := [((DA 0), .inr (7, [.int D_length, .ref (DA 1), .int D_levels, .int D_readLevels, .int D_readAsked, .ref (DA 2), .ref (DA 3), .ref (DA 4), .ref (DA 5), .int D_undoMany, .ref (DA 6), .int D_keptMany, .int D_refused, .int D_roundMany, .int D_roundOver, .ref (DA 7), .int D_terms, .ref (DA 8), .ref (DA 9), .int D_spot, .ref (DA 10), .ref (DA 11), .ref (DA 12), .ref (DA 13)])), ((DA 1), .inl (cI, 200, .inl D_text)), ((DA 2), .inl (cI, 160, .inl D_asked)), ((DA 3), .inl (cI, 10, .inl D_readKinds)), ((DA 4), .inl (cI, 59, .inl D_now)), ((DA 5), .inl (cI, 472, .inl D_before)), ((DA 6), .inl (cI, 118, .inl D_kept)), ((DA 7), .inl (cI, 12, .inl D_round)), ((DA 8), .inl (cI, 6, .inl D_termLevel)), ((DA 9), .inl (cI, 6, .inl D_termAdd)), ((DA 10), .inl (cI, 3, .inl D_number)), ((DA 11), .inl (cI, 100, .inl D_reach)), ((DA 12), .inl (cI, 100, .inl D_edge)), ((DA 13), .inl (cI, 110, .inl D_by))]
abbrev Rm_X7_weightTo : Room := { frames := 0, cells := 0, slots := 0, locals := 0 }
variable {l : Launch} {D : va_G} {cI cS cII : ClassId} {DA : Nat → Nat} {A : Nat → Prop} {J : jT}
variable {z_r : Int32}
def p_X7_weightTo (D_now : Nat → Int32) (a1 : Int32) (a2 : Int32) : Option (Int32) := (rd D_now 59 a2).bind fun x1 => if x1 = 2 then (some (a1 + 1)) else ((rd D_now 59 a2).bind fun x4 => if x4 = 3 then (some (a1 - 1)) else (some a1))
end
set_option maxRecDepth 100000 in
theorem c_X7_weightTo (l : Launch) (D : va_G) (cI cS cII : ClassId) (DA : Nat → Nat) (D_length : Int32) (D_text : Nat → Int32) (D_levels : Int32) (D_readLevels : Int32) (D_readAsked : Int32) (D_asked : Nat → Int32) (D_readKinds : Nat → Int32) (D_now : Nat → Int32) (D_before : Nat → Int32) (D_undoMany : Int32) (D_kept : Nat → Int32) (D_keptMany : Int32) (D_refused : Int32) (D_roundMany : Int32) (D_roundOver : Int32) (D_round : Nat → Int32) (D_terms : Int32) (D_termLevel : Nat → Int32) (D_termAdd : Nat → Int32) (D_spot : Int32) (D_number : Nat → Int32) (D_reach : Nat → Int32) (D_edge : Nat → Int32) (D_by : Nat → Int32) (a1 : Int32) (a2 : Int32) {z_r : Int32} (hF : p_X7_weightTo D_now a1 a2 = some z_r) : MJ l yX7_weightTo cX7_weightTo 3 (some .int) Rm_X7_weightTo D (tysU cI cS cII) [.ref (DA 0), .int a1, .int a2] (W_X7_weightTo cI cS cII DA D_length D_text D_levels D_readLevels D_readAsked D_asked D_readKinds D_now D_before D_undoMany D_kept D_keptMany D_refused D_roundMany D_roundOver D_round D_terms D_termLevel D_termAdd D_spot D_number D_reach D_edge D_by) (some z_r) (W_X7_weightTo cI cS cII DA D_length D_text D_levels D_readLevels D_readAsked D_asked D_readKinds D_now D_before D_undoMany D_kept D_keptMany D_refused D_roundMany D_roundOver D_round D_terms D_termLevel D_termAdd D_spot D_number D_reach D_edge D_by) := by
  refine mj_of (own := RX7) (by decide) rfl (Nat.le_of_ble_eq_true rfl) (fun J hJ => ?_)
  show J (W_X7_weightTo cI cS cII DA D_length D_text D_levels D_readLevels D_readAsked D_asked D_readKinds D_now D_before D_undoMany D_kept D_keptMany D_refused D_roundMany D_roundOver D_round D_terms D_termLevel D_termAdd D_spot D_number D_reach D_edge D_by) 0 [(0, .ref (DA 0)), (1, .int a1), (2, .int a2)] []
  unfold p_X7_weightTo at hF
  refine jj_aload_n hJ dX7_weightTo_0 0 rfl rfl ?_
  refine jj_get hJ lay_X7 dX7_weightTo_1 0 7 rfl rfl (Nat.le_of_ble_eq_true rfl) kw_178 rfl ?_
  refine jj_iload_n hJ dX7_weightTo_4 2 rfl rfl ?_
  obtain ⟨x1, h2, hF⟩ := ob hF
  refine jj_iald hJ dX7_weightTo_5 4 0 rfl rfl h2 ?_
  refine jj_iconst hJ dX7_weightTo_6 ic_2 ?_
  refine jj_icmp_ne hJ 16 dX7_weightTo_7 rfl (fun c3 => ?_) (fun c3 => ?_)
  · replace hF := iq c3 hF
    refine jj_aload_n hJ dX7_weightTo_16 0 rfl rfl ?_
    refine jj_get hJ lay_X7 dX7_weightTo_17 0 7 rfl rfl (Nat.le_of_ble_eq_true rfl) kw_178 rfl ?_
    refine jj_iload_n hJ dX7_weightTo_20 2 rfl rfl ?_
    obtain ⟨x4, h5, hF⟩ := ob hF
    refine jj_iald hJ dX7_weightTo_21 4 0 rfl rfl h5 ?_
    refine jj_iconst hJ dX7_weightTo_22 ic_3 ?_
    refine jj_icmp_ne hJ 32 dX7_weightTo_23 rfl (fun c6 => ?_) (fun c6 => ?_)
    · replace hF := iq c6 hF
      refine jj_iload_n hJ dX7_weightTo_32 1 rfl rfl ?_
      cases Option.some.inj hF
      exact jj_iret hJ dX7_weightTo_33
    · replace hF := ip c6 hF
      refine jj_iload_n hJ dX7_weightTo_26 1 rfl rfl ?_
      refine jj_iconst hJ dX7_weightTo_27 ic_1 ?_
      refine jj_isub hJ dX7_weightTo_28 ?_
      refine jj_goto hJ 33 dX7_weightTo_29 rfl ?_
      cases Option.some.inj hF
      exact jj_iret hJ dX7_weightTo_33
  · replace hF := ip c3 hF
    refine jj_iload_n hJ dX7_weightTo_10 1 rfl rfl ?_
    refine jj_iconst hJ dX7_weightTo_11 ic_1 ?_
    refine jj_iadd hJ dX7_weightTo_12 ?_
    refine jj_goto hJ 33 dX7_weightTo_13 rfl ?_
    cases Option.some.inj hF
    exact jj_iret hJ dX7_weightTo_33
section
abbrev Rm_X7_isWay : Room := { frames := 0, cells := 0, slots := 0, locals := 0 }
variable {l : Launch} {D : va_G} {cI cS cII : ClassId}  {A : Nat → Prop} {J : jT}
variable {z_r : Int32}
def p_X7_isWay (a0 : Int32) : Option (Int32) := if a0 ≤ ((-50000)) then (some 0) else (some 1)
end
set_option maxRecDepth 100000 in
theorem c_X7_isWay (l : Launch) (D : va_G) (cI cS cII : ClassId)   (a0 : Int32) {z_r : Int32} (hF : p_X7_isWay a0 = some z_r) : MJ l yX7_isWay cX7_isWay 1 (some .boolean) Rm_X7_isWay D (tysU cI cS cII) [.int a0] ([] : va_W) (some z_r) ([] : va_W) := by
  refine mj_of (own := RX7) (by decide) rfl (Nat.le_of_ble_eq_true rfl) (fun J hJ => ?_)
  show J ([] : va_W) 0 [(0, .int a0)] []
  unfold p_X7_isWay at hF
  refine jj_iload_n hJ dX7_isWay_0 0 rfl rfl ?_
  refine jj_ldc hJ dX7_isWay_1 kw_179 ?_
  refine jj_icmp_le hJ 10 dX7_isWay_3 rfl (fun c1 => ?_) (fun c1 => ?_)
  · replace hF := ip c1 hF
    refine jj_iconst hJ dX7_isWay_10 ic_0 ?_
    cases Option.some.inj hF
    exact jj_zret hJ (Or.inl rfl) dX7_isWay_11
  · replace hF := iq c1 hF
    refine jj_iconst hJ dX7_isWay_6 ic_1 ?_
    refine jj_goto hJ 11 dX7_isWay_7 rfl ?_
    cases Option.some.inj hF
    exact jj_zret hJ (Or.inr rfl) dX7_isWay_11
section
def W_X7_findBut (cI cS cII : ClassId) (DA : Nat → Nat) (D_length : Int32) (D_text : Nat → Int32) (D_levels : Int32) (D_readLevels : Int32) (D_readAsked : Int32) (D_asked : Nat → Int32) (D_readKinds : Nat → Int32) (D_now : Nat → Int32) (D_before : Nat → Int32) (D_undoMany : Int32) (D_kept : Nat → Int32) (D_keptMany : Int32) (D_refused : Int32) (D_roundMany : Int32) (D_roundOver : Int32) (D_round : Nat → Int32) (D_terms : Int32) (D_termLevel : Nat → Int32) (D_termAdd : Nat → Int32) (D_spot : Int32) (D_number : Nat → Int32) (D_reach : Nat → Int32) (D_edge : Nat → Int32) (D_by : Nat → Int32) : va_W := [((DA 0), .inr (7, [.int D_length, .ref (DA 1), .int D_levels, .int D_readLevels, .int D_readAsked, .ref (DA 2), .ref (DA 3), .ref (DA 4), .ref (DA 5), .int D_undoMany, .ref (DA 6), .int D_keptMany, .int D_refused, .int D_roundMany, .int D_roundOver, .ref (DA 7), .int D_terms, .ref (DA 8), .ref (DA 9), .int D_spot, .ref (DA 10), .ref (DA 11), .ref (DA 12), .ref (DA 13)])), ((DA 1), .inl (cI, 200, .inl D_text)), ((DA 2), .inl (cI, 160, .inl D_asked)), ((DA 3), .inl (cI, 10, .inl D_readKinds)), ((DA 4), .inl (cI, 59, .inl D_now)), ((DA 5), .inl (cI, 472, .inl D_before)), ((DA 6), .inl (cI, 118, .inl D_kept)), ((DA 7), .inl (cI, 12, .inl D_round)), ((DA 8), .inl (cI, 6, .inl D_termLevel)), ((DA 9), .inl (cI, 6, .inl D_termAdd)), ((DA 10), .inl (cI, 3, .inl D_number)), ((DA 11), .inl (cI, 100, .inl D_reach)), ((DA 12), .inl (cI, 100, .inl D_edge)), ((DA 13), .inl (cI, 110, .inl D_by))]
abbrev Rm_X7_findBut : Room := { frames := 1, cells := 0, slots := 0, locals := 21 }
variable {l : Launch} {D : va_G} {cI cS cII : ClassId} {DA : Nat → Nat} {A : Nat → Prop} {J : jT}
variable {z_D_reach : Nat → Int32} {z_D_edge : Nat → Int32}
def q_X7_findBut_101 (D_levels : Int32) (D_now : Nat → Int32) (a1 : Int32) (k24 : Int32 → (Nat → Int32) → (Nat → Int32) → Option ((Nat → Int32) × (Nat → Int32))) (v3 : Int32) (v2 : Int32) (s0 : Int32) (D_reach : Nat → Int32) (D_edge : Nat → Int32) : Option ((Nat → Int32) × (Nat → Int32)) := (rd D_edge 100 v3).bind fun x1 => (wr D_edge 100 s0 x1).bind fun g3 => k24 (v2 + 1) D_reach g3
set_option maxRecDepth 100000 in
theorem w_X7_findBut_101 {D_length : Int32} {D_text : Nat → Int32} {D_levels : Int32} {D_readLevels : Int32} {D_readAsked : Int32} {D_asked : Nat → Int32} {D_readKinds : Nat → Int32} {D_now : Nat → Int32} {D_before : Nat → Int32} {D_undoMany : Int32} {D_kept : Nat → Int32} {D_keptMany : Int32} {D_refused : Int32} {D_roundMany : Int32} {D_roundOver : Int32} {D_round : Nat → Int32} {D_terms : Int32} {D_termLevel : Nat → Int32} {D_termAdd : Nat → Int32} {D_spot : Int32} {D_number : Nat → Int32} {D_by : Nat → Int32} {a1 : Int32} {k24 : Int32 → (Nat → Int32) → (Nat → Int32) → Option ((Nat → Int32) × (Nat → Int32))} (hJ : jJ l cX7_findBut 7 D (tysU cI cS cII) RX7 Rm_X7_findBut none A none (W_X7_findBut cI cS cII DA D_length D_text D_levels D_readLevels D_readAsked D_asked D_readKinds D_now D_before D_undoMany D_kept D_keptMany D_refused D_roundMany D_roundOver D_round D_terms D_termLevel D_termAdd D_spot D_number z_D_reach z_D_edge D_by) J) (hk24 : ∀ (v2 : Int32) (D_reach : Nat → Int32) (D_edge : Nat → Int32), k24 v2 D_reach D_edge = some (z_D_reach, z_D_edge) → J (W_X7_findBut cI cS cII DA D_length D_text D_levels D_readLevels D_readAsked D_asked D_readKinds D_now D_before D_undoMany D_kept D_keptMany D_refused D_roundMany D_roundOver D_round D_terms D_termLevel D_termAdd D_spot D_number D_reach D_edge D_by) 24 [(2, .int v2), (0, .ref (DA 0)), (1, .int a1)] []) : ∀ (v3 : Int32) (v2 : Int32) (s0 : Int32) (D_reach : Nat → Int32) (D_edge : Nat → Int32), q_X7_findBut_101 D_levels D_now a1 k24 v3 v2 s0 D_reach D_edge = some (z_D_reach, z_D_edge) → J (W_X7_findBut cI cS cII DA D_length D_text D_levels D_readLevels D_readAsked D_asked D_readKinds D_now D_before D_undoMany D_kept D_keptMany D_refused D_roundMany D_roundOver D_round D_terms D_termLevel D_termAdd D_spot D_number D_reach D_edge D_by) 101 [(3, .int v3), (2, .int v2), (0, .ref (DA 0)), (1, .int a1)] [.int s0, .ref (DA 12)] := by
  intro v3 v2 s0 D_reach D_edge hF
  unfold q_X7_findBut_101 at hF
  refine jj_aload_n hJ dX7_findBut_101 2 rfl rfl ?_
  refine jj_get hJ lay_X7 dX7_findBut_102 0 22 rfl rfl (Nat.le_of_ble_eq_true rfl) kw_180 rfl ?_
  refine jj_iload_n hJ dX7_findBut_105 0 rfl rfl ?_
  obtain ⟨x1, h2, hF⟩ := ob hF
  refine jj_iald hJ dX7_findBut_106 12 0 rfl rfl h2 ?_
  obtain ⟨g3, h4, hF⟩ := ob hF
  refine jj_iast hJ dX7_findBut_107 12 0 rfl rfl h4 (wn := (W_X7_findBut cI cS cII DA D_length D_text D_levels D_readLevels D_readAsked D_asked D_readKinds D_now D_before D_undoMany D_kept D_keptMany D_refused D_roundMany D_roundOver D_round D_terms D_termLevel D_termAdd D_spot D_number D_reach g3 D_by)) rfl ?_
  refine jj_iinc hJ dX7_findBut_108 1 rfl (v := v2 + 1) (by rw [ic_1]) (Nat.le_of_ble_eq_true rfl) (lv' := [(2, .int (v2 + 1)), (3, .int v3), (0, .ref (DA 0)), (1, .int a1)]) rfl ?_
  refine jj_goto hJ 24 dX7_findBut_111 rfl ?_
  refine jj_lv hJ [0, 2, 3] (lv' := [(2, .int (v2 + 1)), (0, .ref (DA 0)), (1, .int a1)]) rfl ?_
  exact hk24 (v2 + 1) D_reach g3 hF
def q_X7_findBut_147 (D_levels : Int32) (D_now : Nat → Int32) (a1 : Int32) (k116 : Int32 → (Nat → Int32) → (Nat → Int32) → Option ((Nat → Int32) × (Nat → Int32))) (v2 : Int32) (s0 : Int32) (D_reach : Nat → Int32) (D_edge : Nat → Int32) : Option ((Nat → Int32) × (Nat → Int32)) := (rd D_edge 100 v2).bind fun x1 => (wr D_reach 100 s0 x1).bind fun g3 => k116 (v2 + 1) g3 D_edge
set_option maxRecDepth 100000 in
theorem w_X7_findBut_147 {D_length : Int32} {D_text : Nat → Int32} {D_levels : Int32} {D_readLevels : Int32} {D_readAsked : Int32} {D_asked : Nat → Int32} {D_readKinds : Nat → Int32} {D_now : Nat → Int32} {D_before : Nat → Int32} {D_undoMany : Int32} {D_kept : Nat → Int32} {D_keptMany : Int32} {D_refused : Int32} {D_roundMany : Int32} {D_roundOver : Int32} {D_round : Nat → Int32} {D_terms : Int32} {D_termLevel : Nat → Int32} {D_termAdd : Nat → Int32} {D_spot : Int32} {D_number : Nat → Int32} {D_by : Nat → Int32} {a1 : Int32} {k116 : Int32 → (Nat → Int32) → (Nat → Int32) → Option ((Nat → Int32) × (Nat → Int32))} (hJ : jJ l cX7_findBut 7 D (tysU cI cS cII) RX7 Rm_X7_findBut none A none (W_X7_findBut cI cS cII DA D_length D_text D_levels D_readLevels D_readAsked D_asked D_readKinds D_now D_before D_undoMany D_kept D_keptMany D_refused D_roundMany D_roundOver D_round D_terms D_termLevel D_termAdd D_spot D_number z_D_reach z_D_edge D_by) J) (hk116 : ∀ (v2 : Int32) (D_reach : Nat → Int32) (D_edge : Nat → Int32), k116 v2 D_reach D_edge = some (z_D_reach, z_D_edge) → J (W_X7_findBut cI cS cII DA D_length D_text D_levels D_readLevels D_readAsked D_asked D_readKinds D_now D_before D_undoMany D_kept D_keptMany D_refused D_roundMany D_roundOver D_round D_terms D_termLevel D_termAdd D_spot D_number D_reach D_edge D_by) 116 [(2, .int v2), (0, .ref (DA 0))] []) : ∀ (v2 : Int32) (s0 : Int32) (D_reach : Nat → Int32) (D_edge : Nat → Int32), q_X7_findBut_147 D_levels D_now a1 k116 v2 s0 D_reach D_edge = some (z_D_reach, z_D_edge) → J (W_X7_findBut cI cS cII DA D_length D_text D_levels D_readLevels D_readAsked D_asked D_readKinds D_now D_before D_undoMany D_kept D_keptMany D_refused D_roundMany D_roundOver D_round D_terms D_termLevel D_termAdd D_spot D_number D_reach D_edge D_by) 147 [(2, .int v2), (0, .ref (DA 0))] [.int s0, .ref (DA 11)] := by
  intro v2 s0 D_reach D_edge hF
  unfold q_X7_findBut_147 at hF
  refine jj_aload_n hJ dX7_findBut_147 1 rfl rfl ?_
  refine jj_get hJ lay_X7 dX7_findBut_148 0 22 rfl rfl (Nat.le_of_ble_eq_true rfl) kw_180 rfl ?_
  refine jj_iload_n hJ dX7_findBut_151 0 rfl rfl ?_
  obtain ⟨x1, h2, hF⟩ := ob hF
  refine jj_iald hJ dX7_findBut_152 12 0 rfl rfl h2 ?_
  obtain ⟨g3, h4, hF⟩ := ob hF
  refine jj_iast hJ dX7_findBut_153 11 0 rfl rfl h4 (wn := (W_X7_findBut cI cS cII DA D_length D_text D_levels D_readLevels D_readAsked D_asked D_readKinds D_now D_before D_undoMany D_kept D_keptMany D_refused D_roundMany D_roundOver D_round D_terms D_termLevel D_termAdd D_spot D_number g3 D_edge D_by)) rfl ?_
  refine jj_iinc hJ dX7_findBut_154 0 rfl (v := v2 + 1) (by rw [ic_1]) (Nat.le_of_ble_eq_true rfl) (lv' := [(2, .int (v2 + 1)), (0, .ref (DA 0))]) rfl ?_
  refine jj_goto hJ 116 dX7_findBut_157 rfl ?_
  exact hk116 (v2 + 1) g3 D_edge hF
def q_X7_findBut_278 (D_levels : Int32) (D_now : Nat → Int32) (a1 : Int32) (k162 : Int32 → (Nat → Int32) → (Nat → Int32) → Option ((Nat → Int32) × (Nat → Int32))) (k172 : Int32 → Int32 → (Nat → Int32) → (Nat → Int32) → Option ((Nat → Int32) × (Nat → Int32))) (v3 : Int32) (v2 : Int32) (D_reach : Nat → Int32) (D_edge : Nat → Int32) : Option ((Nat → Int32) × (Nat → Int32)) := k172 (v3 + 1) v2 D_reach D_edge
set_option maxRecDepth 100000 in
theorem w_X7_findBut_278 {D_length : Int32} {D_text : Nat → Int32} {D_levels : Int32} {D_readLevels : Int32} {D_readAsked : Int32} {D_asked : Nat → Int32} {D_readKinds : Nat → Int32} {D_now : Nat → Int32} {D_before : Nat → Int32} {D_undoMany : Int32} {D_kept : Nat → Int32} {D_keptMany : Int32} {D_refused : Int32} {D_roundMany : Int32} {D_roundOver : Int32} {D_round : Nat → Int32} {D_terms : Int32} {D_termLevel : Nat → Int32} {D_termAdd : Nat → Int32} {D_spot : Int32} {D_number : Nat → Int32} {D_by : Nat → Int32} {a1 : Int32} {k162 : Int32 → (Nat → Int32) → (Nat → Int32) → Option ((Nat → Int32) × (Nat → Int32))} {k172 : Int32 → Int32 → (Nat → Int32) → (Nat → Int32) → Option ((Nat → Int32) × (Nat → Int32))} (hJ : jJ l cX7_findBut 7 D (tysU cI cS cII) RX7 Rm_X7_findBut none A none (W_X7_findBut cI cS cII DA D_length D_text D_levels D_readLevels D_readAsked D_asked D_readKinds D_now D_before D_undoMany D_kept D_keptMany D_refused D_roundMany D_roundOver D_round D_terms D_termLevel D_termAdd D_spot D_number z_D_reach z_D_edge D_by) J) (hk162 : ∀ (v2 : Int32) (D_reach : Nat → Int32) (D_edge : Nat → Int32), k162 v2 D_reach D_edge = some (z_D_reach, z_D_edge) → J (W_X7_findBut cI cS cII DA D_length D_text D_levels D_readLevels D_readAsked D_asked D_readKinds D_now D_before D_undoMany D_kept D_keptMany D_refused D_roundMany D_roundOver D_round D_terms D_termLevel D_termAdd D_spot D_number D_reach D_edge D_by) 162 [(2, .int v2), (0, .ref (DA 0))] []) (hk172 : ∀ (v3 : Int32) (v2 : Int32) (D_reach : Nat → Int32) (D_edge : Nat → Int32), k172 v3 v2 D_reach D_edge = some (z_D_reach, z_D_edge) → J (W_X7_findBut cI cS cII DA D_length D_text D_levels D_readLevels D_readAsked D_asked D_readKinds D_now D_before D_undoMany D_kept D_keptMany D_refused D_roundMany D_roundOver D_round D_terms D_termLevel D_termAdd D_spot D_number D_reach D_edge D_by) 172 [(3, .int v3), (2, .int v2), (0, .ref (DA 0))] []) : ∀ (v3 : Int32) (v2 : Int32) (D_reach : Nat → Int32) (D_edge : Nat → Int32), q_X7_findBut_278 D_levels D_now a1 k162 k172 v3 v2 D_reach D_edge = some (z_D_reach, z_D_edge) → J (W_X7_findBut cI cS cII DA D_length D_text D_levels D_readLevels D_readAsked D_asked D_readKinds D_now D_before D_undoMany D_kept D_keptMany D_refused D_roundMany D_roundOver D_round D_terms D_termLevel D_termAdd D_spot D_number D_reach D_edge D_by) 278 [(3, .int v3), (2, .int v2), (0, .ref (DA 0))] [] := by
  intro v3 v2 D_reach D_edge hF
  unfold q_X7_findBut_278 at hF
  refine jj_iinc hJ dX7_findBut_278 0 rfl (v := v3 + 1) (by rw [ic_1]) (Nat.le_of_ble_eq_true rfl) (lv' := [(3, .int (v3 + 1)), (2, .int v2), (0, .ref (DA 0))]) rfl ?_
  refine jj_goto hJ 172 dX7_findBut_281 rfl ?_
  exact hk172 (v3 + 1) v2 D_reach D_edge hF
def q_X7_findBut_183 (D_levels : Int32) (D_now : Nat → Int32) (a1 : Int32) (k162 : Int32 → (Nat → Int32) → (Nat → Int32) → Option ((Nat → Int32) × (Nat → Int32))) (k172 : Int32 → Int32 → (Nat → Int32) → (Nat → Int32) → Option ((Nat → Int32) × (Nat → Int32))) : Nat → Int32 → Int32 → Int32 → (Nat → Int32) → (Nat → Int32) → Option ((Nat → Int32) × (Nat → Int32))
  | 0, _, _, _, _, _ => none
  | n + 1, v4, v3, v2, D_reach, D_edge => if D_levels ≤ v4 then (q_X7_findBut_278 D_levels D_now a1 k162 k172 v3 v2 D_reach D_edge) else ((rd D_reach 100 ((10 * v3) + v2)).bind fun x2 => (rd D_reach 100 ((10 * v2) + v4)).bind fun x4 => (p_X7_isWay x2).bind fun r7 => if r7 = 0 then (q_X7_findBut_183 D_levels D_now a1 k162 k172 n (v4 + 1) v3 v2 D_reach D_edge) else ((p_X7_isWay x4).bind fun r10 => if r10 = 0 then (q_X7_findBut_183 D_levels D_now a1 k162 k172 n (v4 + 1) v3 v2 D_reach D_edge) else ((rd D_reach 100 ((10 * v3) + v4)).bind fun x12 => if (x2 + x4) ≤ x12 then (q_X7_findBut_183 D_levels D_now a1 k162 k172 n (v4 + 1) v3 v2 D_reach D_edge) else ((wr D_reach 100 ((10 * v3) + v4) (x2 + x4)).bind fun g15 => q_X7_findBut_183 D_levels D_now a1 k162 k172 n (v4 + 1) v3 v2 g15 D_edge))))
set_option maxRecDepth 100000 in
theorem w_X7_findBut_183 {D_length : Int32} {D_text : Nat → Int32} {D_levels : Int32} {D_readLevels : Int32} {D_readAsked : Int32} {D_asked : Nat → Int32} {D_readKinds : Nat → Int32} {D_now : Nat → Int32} {D_before : Nat → Int32} {D_undoMany : Int32} {D_kept : Nat → Int32} {D_keptMany : Int32} {D_refused : Int32} {D_roundMany : Int32} {D_roundOver : Int32} {D_round : Nat → Int32} {D_terms : Int32} {D_termLevel : Nat → Int32} {D_termAdd : Nat → Int32} {D_spot : Int32} {D_number : Nat → Int32} {D_by : Nat → Int32} {a1 : Int32} {k162 : Int32 → (Nat → Int32) → (Nat → Int32) → Option ((Nat → Int32) × (Nat → Int32))} {k172 : Int32 → Int32 → (Nat → Int32) → (Nat → Int32) → Option ((Nat → Int32) × (Nat → Int32))} (hJ : jJ l cX7_findBut 7 D (tysU cI cS cII) RX7 Rm_X7_findBut none A none (W_X7_findBut cI cS cII DA D_length D_text D_levels D_readLevels D_readAsked D_asked D_readKinds D_now D_before D_undoMany D_kept D_keptMany D_refused D_roundMany D_roundOver D_round D_terms D_termLevel D_termAdd D_spot D_number z_D_reach z_D_edge D_by) J) (hk162 : ∀ (v2 : Int32) (D_reach : Nat → Int32) (D_edge : Nat → Int32), k162 v2 D_reach D_edge = some (z_D_reach, z_D_edge) → J (W_X7_findBut cI cS cII DA D_length D_text D_levels D_readLevels D_readAsked D_asked D_readKinds D_now D_before D_undoMany D_kept D_keptMany D_refused D_roundMany D_roundOver D_round D_terms D_termLevel D_termAdd D_spot D_number D_reach D_edge D_by) 162 [(2, .int v2), (0, .ref (DA 0))] []) (hk172 : ∀ (v3 : Int32) (v2 : Int32) (D_reach : Nat → Int32) (D_edge : Nat → Int32), k172 v3 v2 D_reach D_edge = some (z_D_reach, z_D_edge) → J (W_X7_findBut cI cS cII DA D_length D_text D_levels D_readLevels D_readAsked D_asked D_readKinds D_now D_before D_undoMany D_kept D_keptMany D_refused D_roundMany D_roundOver D_round D_terms D_termLevel D_termAdd D_spot D_number D_reach D_edge D_by) 172 [(3, .int v3), (2, .int v2), (0, .ref (DA 0))] []) : ∀ (n : Nat) (v4 : Int32) (v3 : Int32) (v2 : Int32) (D_reach : Nat → Int32) (D_edge : Nat → Int32), q_X7_findBut_183 D_levels D_now a1 k162 k172 n v4 v3 v2 D_reach D_edge = some (z_D_reach, z_D_edge) → J (W_X7_findBut cI cS cII DA D_length D_text D_levels D_readLevels D_readAsked D_asked D_readKinds D_now D_before D_undoMany D_kept D_keptMany D_refused D_roundMany D_roundOver D_round D_terms D_termLevel D_termAdd D_spot D_number D_reach D_edge D_by) 183 [(4, .int v4), (3, .int v3), (2, .int v2), (0, .ref (DA 0))] [] := by
  intro n
  induction n with
  | zero =>
    intro v4 v3 v2 D_reach D_edge hF
    exact no_some (show (none : Option ((Nat → Int32) × (Nat → Int32))) = some (z_D_reach, z_D_edge) from hF)
  | succ n ih =>
    intro v4 v3 v2 D_reach D_edge hF
    rw [q_X7_findBut_183.eq_2] at hF
    refine jj_iload hJ dX7_findBut_183 0 rfl ?_
    refine jj_aload_n hJ dX7_findBut_185 3 rfl rfl ?_
    refine jj_get hJ lay_X7 dX7_findBut_186 0 2 rfl rfl (Nat.le_of_ble_eq_true rfl) kw_186 rfl ?_
    refine jj_icmp_ge hJ 278 dX7_findBut_189 rfl (fun c1 => ?_) (fun c1 => ?_)
    · replace hF := ip c1 hF
      refine jj_lv hJ [1, 2, 3] (lv' := [(3, .int v3), (2, .int v2), (0, .ref (DA 0))]) rfl ?_
      exact w_X7_findBut_278 hJ hk162 hk172 v3 v2 D_reach D_edge hF
    · replace hF := iq c1 hF
      refine jj_aload_n hJ dX7_findBut_192 3 rfl rfl ?_
      refine jj_get hJ lay_X7 dX7_findBut_193 0 21 rfl rfl (Nat.le_of_ble_eq_true rfl) kw_185 rfl ?_
      refine jj_bipush hJ dX7_findBut_196 bp_10 ?_
      refine jj_iload_n hJ dX7_findBut_198 1 rfl rfl ?_
      refine jj_imul hJ dX7_findBut_199 ?_
      refine jj_iload_n hJ dX7_findBut_200 2 rfl rfl ?_
      refine jj_iadd hJ dX7_findBut_201 ?_
      obtain ⟨x2, h3, hF⟩ := ob hF
      refine jj_iald hJ dX7_findBut_202 11 0 rfl rfl h3 ?_
      refine jj_istore hJ dX7_findBut_203 (Nat.le_of_ble_eq_true rfl) (lv' := [(5, .int x2), (4, .int v4), (3, .int v3), (2, .int v2), (0, .ref (DA 0))]) rfl ?_
      refine jj_aload_n hJ dX7_findBut_205 4 rfl rfl ?_
      refine jj_get hJ lay_X7 dX7_findBut_206 0 21 rfl rfl (Nat.le_of_ble_eq_true rfl) kw_185 rfl ?_
      refine jj_bipush hJ dX7_findBut_209 bp_10 ?_
      refine jj_iload_n hJ dX7_findBut_211 3 rfl rfl ?_
      refine jj_imul hJ dX7_findBut_212 ?_
      refine jj_iload hJ dX7_findBut_213 1 rfl ?_
      refine jj_iadd hJ dX7_findBut_215 ?_
      obtain ⟨x4, h5, hF⟩ := ob hF
      refine jj_iald hJ dX7_findBut_216 11 0 rfl rfl h5 ?_
      refine jj_istore hJ dX7_findBut_217 (Nat.le_of_ble_eq_true rfl) (lv' := [(6, .int x4), (5, .int x2), (4, .int v4), (3, .int v3), (2, .int v2), (0, .ref (DA 0))]) rfl ?_
      refine jj_iload hJ dX7_findBut_219 1 rfl ?_
      obtain ⟨r7, h6, hF⟩ := ob hF
      refine jj_callS0 hJ (c_X7_isWay l D cI cS cII   x2 h6) dX7_findBut_221 kw_187 ⟨Nat.le_of_ble_eq_true rfl, Nat.le_of_ble_eq_true rfl, rfl, rfl⟩ kw_188 kw_189 rfl rfl (Nat.le_of_ble_eq_true rfl) [] rfl rfl ?_
      refine jj_if_eq hJ 272 dX7_findBut_224 rfl (fun c8 => ?_) (fun c8 => ?_)
      · replace hF := ip c8 hF
        refine jj_iinc hJ dX7_findBut_272 2 rfl (v := v4 + 1) (by rw [ic_1]) (Nat.le_of_ble_eq_true rfl) (lv' := [(4, .int (v4 + 1)), (6, .int x4), (5, .int x2), (3, .int v3), (2, .int v2), (0, .ref (DA 0))]) rfl ?_
        refine jj_goto hJ 183 dX7_findBut_275 rfl ?_
        refine jj_lv hJ [0, 3, 4, 5] (lv' := [(4, .int (v4 + 1)), (3, .int v3), (2, .int v2), (0, .ref (DA 0))]) rfl ?_
        exact ih (v4 + 1) v3 v2 D_reach D_edge hF
      · replace hF := iq c8 hF
        refine jj_iload hJ dX7_findBut_227 0 rfl ?_
        obtain ⟨r10, h9, hF⟩ := ob hF
        refine jj_callS0 hJ (c_X7_isWay l D cI cS cII   x4 h9) dX7_findBut_229 kw_187 ⟨Nat.le_of_ble_eq_true rfl, Nat.le_of_ble_eq_true rfl, rfl, rfl⟩ kw_188 kw_189 rfl rfl (Nat.le_of_ble_eq_true rfl) [] rfl rfl ?_
        refine jj_if_eq hJ 272 dX7_findBut_232 rfl (fun c11 => ?_) (fun c11 => ?_)
        · replace hF := ip c11 hF
          refine jj_iinc hJ dX7_findBut_272 2 rfl (v := v4 + 1) (by rw [ic_1]) (Nat.le_of_ble_eq_true rfl) (lv' := [(4, .int (v4 + 1)), (6, .int x4), (5, .int x2), (3, .int v3), (2, .int v2), (0, .ref (DA 0))]) rfl ?_
          refine jj_goto hJ 183 dX7_findBut_275 rfl ?_
          refine jj_lv hJ [0, 3, 4, 5] (lv' := [(4, .int (v4 + 1)), (3, .int v3), (2, .int v2), (0, .ref (DA 0))]) rfl ?_
          exact ih (v4 + 1) v3 v2 D_reach D_edge hF
        · replace hF := iq c11 hF
          refine jj_iload hJ dX7_findBut_235 1 rfl ?_
          refine jj_iload hJ dX7_findBut_237 0 rfl ?_
          refine jj_iadd hJ dX7_findBut_239 ?_
          refine jj_aload_n hJ dX7_findBut_240 5 rfl rfl ?_
          refine jj_get hJ lay_X7 dX7_findBut_241 0 21 rfl rfl (Nat.le_of_ble_eq_true rfl) kw_185 rfl ?_
          refine jj_bipush hJ dX7_findBut_244 bp_10 ?_
          refine jj_iload_n hJ dX7_findBut_246 3 rfl rfl ?_
          refine jj_imul hJ dX7_findBut_247 ?_
          refine jj_iload hJ dX7_findBut_248 2 rfl ?_
          refine jj_iadd hJ dX7_findBut_250 ?_
          obtain ⟨x12, h13, hF⟩ := ob hF
          refine jj_iald hJ dX7_findBut_251 11 0 rfl rfl h13 ?_
          refine jj_icmp_le hJ 272 dX7_findBut_252 rfl (fun c14 => ?_) (fun c14 => ?_)
          · replace hF := ip c14 hF
            refine jj_iinc hJ dX7_findBut_272 2 rfl (v := v4 + 1) (by rw [ic_1]) (Nat.le_of_ble_eq_true rfl) (lv' := [(4, .int (v4 + 1)), (6, .int x4), (5, .int x2), (3, .int v3), (2, .int v2), (0, .ref (DA 0))]) rfl ?_
            refine jj_goto hJ 183 dX7_findBut_275 rfl ?_
            refine jj_lv hJ [0, 3, 4, 5] (lv' := [(4, .int (v4 + 1)), (3, .int v3), (2, .int v2), (0, .ref (DA 0))]) rfl ?_
            exact ih (v4 + 1) v3 v2 D_reach D_edge hF
          · replace hF := iq c14 hF
            refine jj_aload_n hJ dX7_findBut_255 5 rfl rfl ?_
            refine jj_get hJ lay_X7 dX7_findBut_256 0 21 rfl rfl (Nat.le_of_ble_eq_true rfl) kw_185 rfl ?_
            refine jj_bipush hJ dX7_findBut_259 bp_10 ?_
            refine jj_iload_n hJ dX7_findBut_261 3 rfl rfl ?_
            refine jj_imul hJ dX7_findBut_262 ?_
            refine jj_iload hJ dX7_findBut_263 2 rfl ?_
            refine jj_iadd hJ dX7_findBut_265 ?_
            refine jj_iload hJ dX7_findBut_266 1 rfl ?_
            refine jj_iload hJ dX7_findBut_268 0 rfl ?_
            refine jj_iadd hJ dX7_findBut_270 ?_
            obtain ⟨g15, h16, hF⟩ := ob hF
            refine jj_iast hJ dX7_findBut_271 11 0 rfl rfl h16 (wn := (W_X7_findBut cI cS cII DA D_length D_text D_levels D_readLevels D_readAsked D_asked D_readKinds D_now D_before D_undoMany D_kept D_keptMany D_refused D_roundMany D_roundOver D_round D_terms D_termLevel D_termAdd D_spot D_number g15 D_edge D_by)) rfl ?_
            refine jj_iinc hJ dX7_findBut_272 2 rfl (v := v4 + 1) (by rw [ic_1]) (Nat.le_of_ble_eq_true rfl) (lv' := [(4, .int (v4 + 1)), (6, .int x4), (5, .int x2), (3, .int v3), (2, .int v2), (0, .ref (DA 0))]) rfl ?_
            refine jj_goto hJ 183 dX7_findBut_275 rfl ?_
            refine jj_lv hJ [0, 3, 4, 5] (lv' := [(4, .int (v4 + 1)), (3, .int v3), (2, .int v2), (0, .ref (DA 0))]) rfl ?_
            exact ih (v4 + 1) v3 v2 g15 D_edge hF
def q_X7_findBut_284 (D_levels : Int32) (D_now : Nat → Int32) (a1 : Int32) (k162 : Int32 → (Nat → Int32) → (Nat → Int32) → Option ((Nat → Int32) × (Nat → Int32))) (v2 : Int32) (D_reach : Nat → Int32) (D_edge : Nat → Int32) : Option ((Nat → Int32) × (Nat → Int32)) := k162 (v2 + 1) D_reach D_edge
set_option maxRecDepth 100000 in
theorem w_X7_findBut_284 {D_length : Int32} {D_text : Nat → Int32} {D_levels : Int32} {D_readLevels : Int32} {D_readAsked : Int32} {D_asked : Nat → Int32} {D_readKinds : Nat → Int32} {D_now : Nat → Int32} {D_before : Nat → Int32} {D_undoMany : Int32} {D_kept : Nat → Int32} {D_keptMany : Int32} {D_refused : Int32} {D_roundMany : Int32} {D_roundOver : Int32} {D_round : Nat → Int32} {D_terms : Int32} {D_termLevel : Nat → Int32} {D_termAdd : Nat → Int32} {D_spot : Int32} {D_number : Nat → Int32} {D_by : Nat → Int32} {a1 : Int32} {k162 : Int32 → (Nat → Int32) → (Nat → Int32) → Option ((Nat → Int32) × (Nat → Int32))} (hJ : jJ l cX7_findBut 7 D (tysU cI cS cII) RX7 Rm_X7_findBut none A none (W_X7_findBut cI cS cII DA D_length D_text D_levels D_readLevels D_readAsked D_asked D_readKinds D_now D_before D_undoMany D_kept D_keptMany D_refused D_roundMany D_roundOver D_round D_terms D_termLevel D_termAdd D_spot D_number z_D_reach z_D_edge D_by) J) (hk162 : ∀ (v2 : Int32) (D_reach : Nat → Int32) (D_edge : Nat → Int32), k162 v2 D_reach D_edge = some (z_D_reach, z_D_edge) → J (W_X7_findBut cI cS cII DA D_length D_text D_levels D_readLevels D_readAsked D_asked D_readKinds D_now D_before D_undoMany D_kept D_keptMany D_refused D_roundMany D_roundOver D_round D_terms D_termLevel D_termAdd D_spot D_number D_reach D_edge D_by) 162 [(2, .int v2), (0, .ref (DA 0))] []) : ∀ (v2 : Int32) (D_reach : Nat → Int32) (D_edge : Nat → Int32), q_X7_findBut_284 D_levels D_now a1 k162 v2 D_reach D_edge = some (z_D_reach, z_D_edge) → J (W_X7_findBut cI cS cII DA D_length D_text D_levels D_readLevels D_readAsked D_asked D_readKinds D_now D_before D_undoMany D_kept D_keptMany D_refused D_roundMany D_roundOver D_round D_terms D_termLevel D_termAdd D_spot D_number D_reach D_edge D_by) 284 [(2, .int v2), (0, .ref (DA 0))] [] := by
  intro v2 D_reach D_edge hF
  unfold q_X7_findBut_284 at hF
  refine jj_iinc hJ dX7_findBut_284 0 rfl (v := v2 + 1) (by rw [ic_1]) (Nat.le_of_ble_eq_true rfl) (lv' := [(2, .int (v2 + 1)), (0, .ref (DA 0))]) rfl ?_
  refine jj_goto hJ 162 dX7_findBut_287 rfl ?_
  exact hk162 (v2 + 1) D_reach D_edge hF
def q_X7_findBut_172 (D_levels : Int32) (D_now : Nat → Int32) (a1 : Int32) (k162 : Int32 → (Nat → Int32) → (Nat → Int32) → Option ((Nat → Int32) × (Nat → Int32))) : Nat → Int32 → Int32 → (Nat → Int32) → (Nat → Int32) → Option ((Nat → Int32) × (Nat → Int32))
  | 0, _, _, _, _ => none
  | n + 1, v3, v2, D_reach, D_edge => if D_levels ≤ v3 then (q_X7_findBut_284 D_levels D_now a1 k162 v2 D_reach D_edge) else (q_X7_findBut_183 D_levels D_now a1 k162 (q_X7_findBut_172 D_levels D_now a1 k162 n) FU 0 v3 v2 D_reach D_edge)
set_option maxRecDepth 100000 in
theorem w_X7_findBut_172 {D_length : Int32} {D_text : Nat → Int32} {D_levels : Int32} {D_readLevels : Int32} {D_readAsked : Int32} {D_asked : Nat → Int32} {D_readKinds : Nat → Int32} {D_now : Nat → Int32} {D_before : Nat → Int32} {D_undoMany : Int32} {D_kept : Nat → Int32} {D_keptMany : Int32} {D_refused : Int32} {D_roundMany : Int32} {D_roundOver : Int32} {D_round : Nat → Int32} {D_terms : Int32} {D_termLevel : Nat → Int32} {D_termAdd : Nat → Int32} {D_spot : Int32} {D_number : Nat → Int32} {D_by : Nat → Int32} {a1 : Int32} {k162 : Int32 → (Nat → Int32) → (Nat → Int32) → Option ((Nat → Int32) × (Nat → Int32))} (hJ : jJ l cX7_findBut 7 D (tysU cI cS cII) RX7 Rm_X7_findBut none A none (W_X7_findBut cI cS cII DA D_length D_text D_levels D_readLevels D_readAsked D_asked D_readKinds D_now D_before D_undoMany D_kept D_keptMany D_refused D_roundMany D_roundOver D_round D_terms D_termLevel D_termAdd D_spot D_number z_D_reach z_D_edge D_by) J) (hk162 : ∀ (v2 : Int32) (D_reach : Nat → Int32) (D_edge : Nat → Int32), k162 v2 D_reach D_edge = some (z_D_reach, z_D_edge) → J (W_X7_findBut cI cS cII DA D_length D_text D_levels D_readLevels D_readAsked D_asked D_readKinds D_now D_before D_undoMany D_kept D_keptMany D_refused D_roundMany D_roundOver D_round D_terms D_termLevel D_termAdd D_spot D_number D_reach D_edge D_by) 162 [(2, .int v2), (0, .ref (DA 0))] []) : ∀ (n : Nat) (v3 : Int32) (v2 : Int32) (D_reach : Nat → Int32) (D_edge : Nat → Int32), q_X7_findBut_172 D_levels D_now a1 k162 n v3 v2 D_reach D_edge = some (z_D_reach, z_D_edge) → J (W_X7_findBut cI cS cII DA D_length D_text D_levels D_readLevels D_readAsked D_asked D_readKinds D_now D_before D_undoMany D_kept D_keptMany D_refused D_roundMany D_roundOver D_round D_terms D_termLevel D_termAdd D_spot D_number D_reach D_edge D_by) 172 [(3, .int v3), (2, .int v2), (0, .ref (DA 0))] [] := by
  intro n
  induction n with
  | zero =>
    intro v3 v2 D_reach D_edge hF
    exact no_some (show (none : Option ((Nat → Int32) × (Nat → Int32))) = some (z_D_reach, z_D_edge) from hF)
  | succ n ih =>
    intro v3 v2 D_reach D_edge hF
    rw [q_X7_findBut_172.eq_2] at hF
    refine jj_iload_n hJ dX7_findBut_172 0 rfl rfl ?_
    refine jj_aload_n hJ dX7_findBut_173 2 rfl rfl ?_
    refine jj_get hJ lay_X7 dX7_findBut_174 0 2 rfl rfl (Nat.le_of_ble_eq_true rfl) kw_186 rfl ?_
    refine jj_icmp_ge hJ 284 dX7_findBut_177 rfl (fun c1 => ?_) (fun c1 => ?_)
    · replace hF := ip c1 hF
      refine jj_lv hJ [1, 2] (lv' := [(2, .int v2), (0, .ref (DA 0))]) rfl ?_
      exact w_X7_findBut_284 hJ hk162 v2 D_reach D_edge hF
    · replace hF := iq c1 hF
      refine jj_iconst hJ dX7_findBut_180 ic_0 ?_
      refine jj_istore hJ dX7_findBut_181 (Nat.le_of_ble_eq_true rfl) (lv' := [(4, .int 0), (3, .int v3), (2, .int v2), (0, .ref (DA 0))]) rfl ?_
      exact w_X7_findBut_183 hJ hk162 (fun v3 v2 D_reach D_edge => ih v3 v2 D_reach D_edge) FU 0 v3 v2 D_reach D_edge hF
def q_X7_findBut_162 (D_levels : Int32) (D_now : Nat → Int32) (a1 : Int32)  : Nat → Int32 → (Nat → Int32) → (Nat → Int32) → Option ((Nat → Int32) × (Nat → Int32))
  | 0, _, _, _ => none
  | n + 1, v2, D_reach, D_edge => if D_levels ≤ v2 then (some (D_reach, D_edge)) else (q_X7_findBut_172 D_levels D_now a1 (q_X7_findBut_162 D_levels D_now a1 n) FU 0 v2 D_reach D_edge)
set_option maxRecDepth 100000 in
theorem w_X7_findBut_162 {D_length : Int32} {D_text : Nat → Int32} {D_levels : Int32} {D_readLevels : Int32} {D_readAsked : Int32} {D_asked : Nat → Int32} {D_readKinds : Nat → Int32} {D_now : Nat → Int32} {D_before : Nat → Int32} {D_undoMany : Int32} {D_kept : Nat → Int32} {D_keptMany : Int32} {D_refused : Int32} {D_roundMany : Int32} {D_roundOver : Int32} {D_round : Nat → Int32} {D_terms : Int32} {D_termLevel : Nat → Int32} {D_termAdd : Nat → Int32} {D_spot : Int32} {D_number : Nat → Int32} {D_by : Nat → Int32} {a1 : Int32}  (hJ : jJ l cX7_findBut 7 D (tysU cI cS cII) RX7 Rm_X7_findBut none A none (W_X7_findBut cI cS cII DA D_length D_text D_levels D_readLevels D_readAsked D_asked D_readKinds D_now D_before D_undoMany D_kept D_keptMany D_refused D_roundMany D_roundOver D_round D_terms D_termLevel D_termAdd D_spot D_number z_D_reach z_D_edge D_by) J)  : ∀ (n : Nat) (v2 : Int32) (D_reach : Nat → Int32) (D_edge : Nat → Int32), q_X7_findBut_162 D_levels D_now a1 n v2 D_reach D_edge = some (z_D_reach, z_D_edge) → J (W_X7_findBut cI cS cII DA D_length D_text D_levels D_readLevels D_readAsked D_asked D_readKinds D_now D_before D_undoMany D_kept D_keptMany D_refused D_roundMany D_roundOver D_round D_terms D_termLevel D_termAdd D_spot D_number D_reach D_edge D_by) 162 [(2, .int v2), (0, .ref (DA 0))] [] := by
  intro n
  induction n with
  | zero =>
    intro v2 D_reach D_edge hF
    exact no_some (show (none : Option ((Nat → Int32) × (Nat → Int32))) = some (z_D_reach, z_D_edge) from hF)
  | succ n ih =>
    intro v2 D_reach D_edge hF
    rw [q_X7_findBut_162.eq_2] at hF
    refine jj_iload_n hJ dX7_findBut_162 0 rfl rfl ?_
    refine jj_aload_n hJ dX7_findBut_163 1 rfl rfl ?_
    refine jj_get hJ lay_X7 dX7_findBut_164 0 2 rfl rfl (Nat.le_of_ble_eq_true rfl) kw_186 rfl ?_
    refine jj_icmp_ge hJ 290 dX7_findBut_167 rfl (fun c1 => ?_) (fun c1 => ?_)
    · replace hF := ip c1 hF
      cases Option.some.inj hF
      exact jj_vret hJ dX7_findBut_290
    · replace hF := iq c1 hF
      refine jj_iconst hJ dX7_findBut_170 ic_0 ?_
      refine jj_istore_n hJ dX7_findBut_171 rfl (Nat.le_of_ble_eq_true rfl) (lv' := [(3, .int 0), (2, .int v2), (0, .ref (DA 0))]) rfl ?_
      exact w_X7_findBut_172 hJ (fun v2 D_reach D_edge => ih v2 D_reach D_edge) FU 0 v2 D_reach D_edge hF
def q_X7_findBut_160 (D_levels : Int32) (D_now : Nat → Int32) (a1 : Int32)  (D_reach : Nat → Int32) (D_edge : Nat → Int32) : Option ((Nat → Int32) × (Nat → Int32)) := q_X7_findBut_162 D_levels D_now a1 FU 0 D_reach D_edge
set_option maxRecDepth 100000 in
theorem w_X7_findBut_160 {D_length : Int32} {D_text : Nat → Int32} {D_levels : Int32} {D_readLevels : Int32} {D_readAsked : Int32} {D_asked : Nat → Int32} {D_readKinds : Nat → Int32} {D_now : Nat → Int32} {D_before : Nat → Int32} {D_undoMany : Int32} {D_kept : Nat → Int32} {D_keptMany : Int32} {D_refused : Int32} {D_roundMany : Int32} {D_roundOver : Int32} {D_round : Nat → Int32} {D_terms : Int32} {D_termLevel : Nat → Int32} {D_termAdd : Nat → Int32} {D_spot : Int32} {D_number : Nat → Int32} {D_by : Nat → Int32} {a1 : Int32}  (hJ : jJ l cX7_findBut 7 D (tysU cI cS cII) RX7 Rm_X7_findBut none A none (W_X7_findBut cI cS cII DA D_length D_text D_levels D_readLevels D_readAsked D_asked D_readKinds D_now D_before D_undoMany D_kept D_keptMany D_refused D_roundMany D_roundOver D_round D_terms D_termLevel D_termAdd D_spot D_number z_D_reach z_D_edge D_by) J)  : ∀ (D_reach : Nat → Int32) (D_edge : Nat → Int32), q_X7_findBut_160 D_levels D_now a1 D_reach D_edge = some (z_D_reach, z_D_edge) → J (W_X7_findBut cI cS cII DA D_length D_text D_levels D_readLevels D_readAsked D_asked D_readKinds D_now D_before D_undoMany D_kept D_keptMany D_refused D_roundMany D_roundOver D_round D_terms D_termLevel D_termAdd D_spot D_number D_reach D_edge D_by) 160 [(0, .ref (DA 0))] [] := by
  intro D_reach D_edge hF
  unfold q_X7_findBut_160 at hF
  refine jj_iconst hJ dX7_findBut_160 ic_0 ?_
  refine jj_istore_n hJ dX7_findBut_161 rfl (Nat.le_of_ble_eq_true rfl) (lv' := [(2, .int 0), (0, .ref (DA 0))]) rfl ?_
  exact w_X7_findBut_162 hJ  FU 0 D_reach D_edge hF
def q_X7_findBut_116 (D_levels : Int32) (D_now : Nat → Int32) (a1 : Int32)  : Nat → Int32 → (Nat → Int32) → (Nat → Int32) → Option ((Nat → Int32) × (Nat → Int32))
  | 0, _, _, _ => none
  | n + 1, v2, D_reach, D_edge => if 100 ≤ v2 then (q_X7_findBut_160 D_levels D_now a1 D_reach D_edge) else (if (v2 - v2 / 11 * 11) = 0 then ((rd D_edge 100 v2).bind fun x3 => if 0 ≤ x3 then (q_X7_findBut_147 D_levels D_now a1 (q_X7_findBut_116 D_levels D_now a1 n) v2 v2 D_reach D_edge) else ((wr D_reach 100 v2 0).bind fun g6 => q_X7_findBut_116 D_levels D_now a1 n (v2 + 1) g6 D_edge)) else (q_X7_findBut_147 D_levels D_now a1 (q_X7_findBut_116 D_levels D_now a1 n) v2 v2 D_reach D_edge))
set_option maxRecDepth 100000 in
theorem w_X7_findBut_116 {D_length : Int32} {D_text : Nat → Int32} {D_levels : Int32} {D_readLevels : Int32} {D_readAsked : Int32} {D_asked : Nat → Int32} {D_readKinds : Nat → Int32} {D_now : Nat → Int32} {D_before : Nat → Int32} {D_undoMany : Int32} {D_kept : Nat → Int32} {D_keptMany : Int32} {D_refused : Int32} {D_roundMany : Int32} {D_roundOver : Int32} {D_round : Nat → Int32} {D_terms : Int32} {D_termLevel : Nat → Int32} {D_termAdd : Nat → Int32} {D_spot : Int32} {D_number : Nat → Int32} {D_by : Nat → Int32} {a1 : Int32}  (hJ : jJ l cX7_findBut 7 D (tysU cI cS cII) RX7 Rm_X7_findBut none A none (W_X7_findBut cI cS cII DA D_length D_text D_levels D_readLevels D_readAsked D_asked D_readKinds D_now D_before D_undoMany D_kept D_keptMany D_refused D_roundMany D_roundOver D_round D_terms D_termLevel D_termAdd D_spot D_number z_D_reach z_D_edge D_by) J)  : ∀ (n : Nat) (v2 : Int32) (D_reach : Nat → Int32) (D_edge : Nat → Int32), q_X7_findBut_116 D_levels D_now a1 n v2 D_reach D_edge = some (z_D_reach, z_D_edge) → J (W_X7_findBut cI cS cII DA D_length D_text D_levels D_readLevels D_readAsked D_asked D_readKinds D_now D_before D_undoMany D_kept D_keptMany D_refused D_roundMany D_roundOver D_round D_terms D_termLevel D_termAdd D_spot D_number D_reach D_edge D_by) 116 [(2, .int v2), (0, .ref (DA 0))] [] := by
  intro n
  induction n with
  | zero =>
    intro v2 D_reach D_edge hF
    exact no_some (show (none : Option ((Nat → Int32) × (Nat → Int32))) = some (z_D_reach, z_D_edge) from hF)
  | succ n ih =>
    intro v2 D_reach D_edge hF
    rw [q_X7_findBut_116.eq_2] at hF
    refine jj_iload_n hJ dX7_findBut_116 0 rfl rfl ?_
    refine jj_bipush hJ dX7_findBut_117 bp_100 ?_
    refine jj_icmp_ge hJ 160 dX7_findBut_119 rfl (fun c1 => ?_) (fun c1 => ?_)
    · replace hF := ip c1 hF
      refine jj_lv hJ [1] (lv' := [(0, .ref (DA 0))]) rfl ?_
      exact w_X7_findBut_160 hJ  D_reach D_edge hF
    · replace hF := iq c1 hF
      refine jj_aload_n hJ dX7_findBut_122 1 rfl rfl ?_
      refine jj_get hJ lay_X7 dX7_findBut_123 0 21 rfl rfl (Nat.le_of_ble_eq_true rfl) kw_185 rfl ?_
      refine jj_iload_n hJ dX7_findBut_126 0 rfl rfl ?_
      refine jj_iload_n hJ dX7_findBut_127 0 rfl rfl ?_
      refine jj_bipush hJ dX7_findBut_128 bp_11 ?_
      refine jj_irem hJ dX7_findBut_130 (by decide) ?_
      refine jj_if_ne hJ 147 dX7_findBut_131 rfl (fun c2 => ?_) (fun c2 => ?_)
      · replace hF := iq c2 hF
        exact w_X7_findBut_147 hJ (fun v2 D_reach D_edge => ih v2 D_reach D_edge) v2 v2 D_reach D_edge hF
      · replace hF := ip c2 hF
        refine jj_aload_n hJ dX7_findBut_134 1 rfl rfl ?_
        refine jj_get hJ lay_X7 dX7_findBut_135 0 22 rfl rfl (Nat.le_of_ble_eq_true rfl) kw_180 rfl ?_
        refine jj_iload_n hJ dX7_findBut_138 0 rfl rfl ?_
        obtain ⟨x3, h4, hF⟩ := ob hF
        refine jj_iald hJ dX7_findBut_139 12 0 rfl rfl h4 ?_
        refine jj_if_ge hJ 147 dX7_findBut_140 rfl (fun c5 => ?_) (fun c5 => ?_)
        · replace hF := ip c5 hF
          exact w_X7_findBut_147 hJ (fun v2 D_reach D_edge => ih v2 D_reach D_edge) v2 v2 D_reach D_edge hF
        · replace hF := iq c5 hF
          refine jj_iconst hJ dX7_findBut_143 ic_0 ?_
          refine jj_goto hJ 153 dX7_findBut_144 rfl ?_
          obtain ⟨g6, h7, hF⟩ := ob hF
          refine jj_iast hJ dX7_findBut_153 11 0 rfl rfl h7 (wn := (W_X7_findBut cI cS cII DA D_length D_text D_levels D_readLevels D_readAsked D_asked D_readKinds D_now D_before D_undoMany D_kept D_keptMany D_refused D_roundMany D_roundOver D_round D_terms D_termLevel D_termAdd D_spot D_number g6 D_edge D_by)) rfl ?_
          refine jj_iinc hJ dX7_findBut_154 0 rfl (v := v2 + 1) (by rw [ic_1]) (Nat.le_of_ble_eq_true rfl) (lv' := [(2, .int (v2 + 1)), (0, .ref (DA 0))]) rfl ?_
          refine jj_goto hJ 116 dX7_findBut_157 rfl ?_
          exact ih (v2 + 1) g6 D_edge hF
def q_X7_findBut_114 (D_levels : Int32) (D_now : Nat → Int32) (a1 : Int32)  (D_reach : Nat → Int32) (D_edge : Nat → Int32) : Option ((Nat → Int32) × (Nat → Int32)) := q_X7_findBut_116 D_levels D_now a1 FU 0 D_reach D_edge
set_option maxRecDepth 100000 in
theorem w_X7_findBut_114 {D_length : Int32} {D_text : Nat → Int32} {D_levels : Int32} {D_readLevels : Int32} {D_readAsked : Int32} {D_asked : Nat → Int32} {D_readKinds : Nat → Int32} {D_now : Nat → Int32} {D_before : Nat → Int32} {D_undoMany : Int32} {D_kept : Nat → Int32} {D_keptMany : Int32} {D_refused : Int32} {D_roundMany : Int32} {D_roundOver : Int32} {D_round : Nat → Int32} {D_terms : Int32} {D_termLevel : Nat → Int32} {D_termAdd : Nat → Int32} {D_spot : Int32} {D_number : Nat → Int32} {D_by : Nat → Int32} {a1 : Int32}  (hJ : jJ l cX7_findBut 7 D (tysU cI cS cII) RX7 Rm_X7_findBut none A none (W_X7_findBut cI cS cII DA D_length D_text D_levels D_readLevels D_readAsked D_asked D_readKinds D_now D_before D_undoMany D_kept D_keptMany D_refused D_roundMany D_roundOver D_round D_terms D_termLevel D_termAdd D_spot D_number z_D_reach z_D_edge D_by) J)  : ∀ (D_reach : Nat → Int32) (D_edge : Nat → Int32), q_X7_findBut_114 D_levels D_now a1 D_reach D_edge = some (z_D_reach, z_D_edge) → J (W_X7_findBut cI cS cII DA D_length D_text D_levels D_readLevels D_readAsked D_asked D_readKinds D_now D_before D_undoMany D_kept D_keptMany D_refused D_roundMany D_roundOver D_round D_terms D_termLevel D_termAdd D_spot D_number D_reach D_edge D_by) 114 [(0, .ref (DA 0))] [] := by
  intro D_reach D_edge hF
  unfold q_X7_findBut_114 at hF
  refine jj_iconst hJ dX7_findBut_114 ic_0 ?_
  refine jj_istore_n hJ dX7_findBut_115 rfl (Nat.le_of_ble_eq_true rfl) (lv' := [(2, .int 0), (0, .ref (DA 0))]) rfl ?_
  exact w_X7_findBut_116 hJ  FU 0 D_reach D_edge hF
def q_X7_findBut_24 (D_levels : Int32) (D_now : Nat → Int32) (a1 : Int32)  : Nat → Int32 → (Nat → Int32) → (Nat → Int32) → Option ((Nat → Int32) × (Nat → Int32))
  | 0, _, _, _ => none
  | n + 1, v2, D_reach, D_edge => (rd D_now 59 10).bind fun x1 => if x1 ≤ v2 then (q_X7_findBut_114 D_levels D_now a1 D_reach D_edge) else ((rd D_now 59 (11 + v2)).bind fun x4 => (rd D_now 59 (27 + v2)).bind fun x6 => (p_X7_has a1 v2).bind fun r9 => if r9 = 0 then ((rd D_now 59 (43 + v2)).bind fun x11 => (rd D_edge 100 ((10 * x4) + x6)).bind fun x13 => if x11 ≤ x13 then (q_X7_findBut_101 D_levels D_now a1 (q_X7_findBut_24 D_levels D_now a1 n) ((10 * x4) + x6) v2 ((10 * x4) + x6) D_reach D_edge) else ((rd D_now 59 (43 + v2)).bind fun x16 => (wr D_edge 100 ((10 * x4) + x6) x16).bind fun g18 => q_X7_findBut_24 D_levels D_now a1 n (v2 + 1) D_reach g18)) else (q_X7_findBut_101 D_levels D_now a1 (q_X7_findBut_24 D_levels D_now a1 n) ((10 * x4) + x6) v2 ((10 * x4) + x6) D_reach D_edge))
set_option maxRecDepth 100000 in
theorem w_X7_findBut_24 {D_length : Int32} {D_text : Nat → Int32} {D_levels : Int32} {D_readLevels : Int32} {D_readAsked : Int32} {D_asked : Nat → Int32} {D_readKinds : Nat → Int32} {D_now : Nat → Int32} {D_before : Nat → Int32} {D_undoMany : Int32} {D_kept : Nat → Int32} {D_keptMany : Int32} {D_refused : Int32} {D_roundMany : Int32} {D_roundOver : Int32} {D_round : Nat → Int32} {D_terms : Int32} {D_termLevel : Nat → Int32} {D_termAdd : Nat → Int32} {D_spot : Int32} {D_number : Nat → Int32} {D_by : Nat → Int32} {a1 : Int32}  (hJ : jJ l cX7_findBut 7 D (tysU cI cS cII) RX7 Rm_X7_findBut none A none (W_X7_findBut cI cS cII DA D_length D_text D_levels D_readLevels D_readAsked D_asked D_readKinds D_now D_before D_undoMany D_kept D_keptMany D_refused D_roundMany D_roundOver D_round D_terms D_termLevel D_termAdd D_spot D_number z_D_reach z_D_edge D_by) J)  : ∀ (n : Nat) (v2 : Int32) (D_reach : Nat → Int32) (D_edge : Nat → Int32), q_X7_findBut_24 D_levels D_now a1 n v2 D_reach D_edge = some (z_D_reach, z_D_edge) → J (W_X7_findBut cI cS cII DA D_length D_text D_levels D_readLevels D_readAsked D_asked D_readKinds D_now D_before D_undoMany D_kept D_keptMany D_refused D_roundMany D_roundOver D_round D_terms D_termLevel D_termAdd D_spot D_number D_reach D_edge D_by) 24 [(2, .int v2), (0, .ref (DA 0)), (1, .int a1)] [] := by
  intro n
  induction n with
  | zero =>
    intro v2 D_reach D_edge hF
    exact no_some (show (none : Option ((Nat → Int32) × (Nat → Int32))) = some (z_D_reach, z_D_edge) from hF)
  | succ n ih =>
    intro v2 D_reach D_edge hF
    rw [q_X7_findBut_24.eq_2] at hF
    refine jj_iload_n hJ dX7_findBut_24 0 rfl rfl ?_
    refine jj_aload_n hJ dX7_findBut_25 1 rfl rfl ?_
    refine jj_get hJ lay_X7 dX7_findBut_26 0 7 rfl rfl (Nat.le_of_ble_eq_true rfl) kw_178 rfl ?_
    refine jj_bipush hJ dX7_findBut_29 bp_10 ?_
    obtain ⟨x1, h2, hF⟩ := ob hF
    refine jj_iald hJ dX7_findBut_31 4 0 rfl rfl h2 ?_
    refine jj_icmp_ge hJ 114 dX7_findBut_32 rfl (fun c3 => ?_) (fun c3 => ?_)
    · replace hF := ip c3 hF
      refine jj_lv hJ [1] (lv' := [(0, .ref (DA 0))]) rfl ?_
      exact w_X7_findBut_114 hJ  D_reach D_edge hF
    · replace hF := iq c3 hF
      refine jj_bipush hJ dX7_findBut_35 bp_10 ?_
      refine jj_aload_n hJ dX7_findBut_37 1 rfl rfl ?_
      refine jj_get hJ lay_X7 dX7_findBut_38 0 7 rfl rfl (Nat.le_of_ble_eq_true rfl) kw_178 rfl ?_
      refine jj_bipush hJ dX7_findBut_41 bp_11 ?_
      refine jj_iload_n hJ dX7_findBut_43 0 rfl rfl ?_
      refine jj_iadd hJ dX7_findBut_44 ?_
      obtain ⟨x4, h5, hF⟩ := ob hF
      refine jj_iald hJ dX7_findBut_45 4 0 rfl rfl h5 ?_
      refine jj_imul hJ dX7_findBut_46 ?_
      refine jj_aload_n hJ dX7_findBut_47 1 rfl rfl ?_
      refine jj_get hJ lay_X7 dX7_findBut_48 0 7 rfl rfl (Nat.le_of_ble_eq_true rfl) kw_178 rfl ?_
      refine jj_bipush hJ dX7_findBut_51 bp_27 ?_
      refine jj_iload_n hJ dX7_findBut_53 0 rfl rfl ?_
      refine jj_iadd hJ dX7_findBut_54 ?_
      obtain ⟨x6, h7, hF⟩ := ob hF
      refine jj_iald hJ dX7_findBut_55 4 0 rfl rfl h7 ?_
      refine jj_iadd hJ dX7_findBut_56 ?_
      refine jj_istore_n hJ dX7_findBut_57 rfl (Nat.le_of_ble_eq_true rfl) (lv' := [(3, .int ((10 * x4) + x6)), (2, .int v2), (0, .ref (DA 0)), (1, .int a1)]) rfl ?_
      refine jj_aload_n hJ dX7_findBut_58 2 rfl rfl ?_
      refine jj_get hJ lay_X7 dX7_findBut_59 0 22 rfl rfl (Nat.le_of_ble_eq_true rfl) kw_180 rfl ?_
      refine jj_iload_n hJ dX7_findBut_62 0 rfl rfl ?_
      refine jj_iload_n hJ dX7_findBut_63 3 rfl rfl ?_
      refine jj_iload_n hJ dX7_findBut_64 1 rfl rfl ?_
      obtain ⟨r9, h8, hF⟩ := ob hF
      refine jj_callS0 hJ (c_X7_has l D cI cS cII   a1 v2 h8) dX7_findBut_65 kw_182 ⟨Nat.le_of_ble_eq_true rfl, Nat.le_of_ble_eq_true rfl, rfl, rfl⟩ kw_183 kw_184 rfl rfl (Nat.le_of_ble_eq_true rfl) [] rfl rfl ?_
      refine jj_if_ne hJ 101 dX7_findBut_68 rfl (fun c10 => ?_) (fun c10 => ?_)
      · replace hF := iq c10 hF
        exact w_X7_findBut_101 hJ (fun v2 D_reach D_edge => ih v2 D_reach D_edge) ((10 * x4) + x6) v2 ((10 * x4) + x6) D_reach D_edge hF
      · replace hF := ip c10 hF
        refine jj_aload_n hJ dX7_findBut_71 2 rfl rfl ?_
        refine jj_get hJ lay_X7 dX7_findBut_72 0 7 rfl rfl (Nat.le_of_ble_eq_true rfl) kw_178 rfl ?_
        refine jj_bipush hJ dX7_findBut_75 bp_43 ?_
        refine jj_iload_n hJ dX7_findBut_77 1 rfl rfl ?_
        refine jj_iadd hJ dX7_findBut_78 ?_
        obtain ⟨x11, h12, hF⟩ := ob hF
        refine jj_iald hJ dX7_findBut_79 4 0 rfl rfl h12 ?_
        refine jj_aload_n hJ dX7_findBut_80 2 rfl rfl ?_
        refine jj_get hJ lay_X7 dX7_findBut_81 0 22 rfl rfl (Nat.le_of_ble_eq_true rfl) kw_180 rfl ?_
        refine jj_iload_n hJ dX7_findBut_84 0 rfl rfl ?_
        obtain ⟨x13, h14, hF⟩ := ob hF
        refine jj_iald hJ dX7_findBut_85 12 0 rfl rfl h14 ?_
        refine jj_icmp_le hJ 101 dX7_findBut_86 rfl (fun c15 => ?_) (fun c15 => ?_)
        · replace hF := ip c15 hF
          exact w_X7_findBut_101 hJ (fun v2 D_reach D_edge => ih v2 D_reach D_edge) ((10 * x4) + x6) v2 ((10 * x4) + x6) D_reach D_edge hF
        · replace hF := iq c15 hF
          refine jj_aload_n hJ dX7_findBut_89 2 rfl rfl ?_
          refine jj_get hJ lay_X7 dX7_findBut_90 0 7 rfl rfl (Nat.le_of_ble_eq_true rfl) kw_178 rfl ?_
          refine jj_bipush hJ dX7_findBut_93 bp_43 ?_
          refine jj_iload_n hJ dX7_findBut_95 1 rfl rfl ?_
          refine jj_iadd hJ dX7_findBut_96 ?_
          obtain ⟨x16, h17, hF⟩ := ob hF
          refine jj_iald hJ dX7_findBut_97 4 0 rfl rfl h17 ?_
          refine jj_goto hJ 107 dX7_findBut_98 rfl ?_
          obtain ⟨g18, h19, hF⟩ := ob hF
          refine jj_iast hJ dX7_findBut_107 12 0 rfl rfl h19 (wn := (W_X7_findBut cI cS cII DA D_length D_text D_levels D_readLevels D_readAsked D_asked D_readKinds D_now D_before D_undoMany D_kept D_keptMany D_refused D_roundMany D_roundOver D_round D_terms D_termLevel D_termAdd D_spot D_number D_reach g18 D_by)) rfl ?_
          refine jj_iinc hJ dX7_findBut_108 1 rfl (v := v2 + 1) (by rw [ic_1]) (Nat.le_of_ble_eq_true rfl) (lv' := [(2, .int (v2 + 1)), (3, .int ((10 * x4) + x6)), (0, .ref (DA 0)), (1, .int a1)]) rfl ?_
          refine jj_goto hJ 24 dX7_findBut_111 rfl ?_
          refine jj_lv hJ [0, 2, 3] (lv' := [(2, .int (v2 + 1)), (0, .ref (DA 0)), (1, .int a1)]) rfl ?_
          exact ih (v2 + 1) D_reach g18 hF
def q_X7_findBut_22 (D_levels : Int32) (D_now : Nat → Int32) (a1 : Int32)  (D_reach : Nat → Int32) (D_edge : Nat → Int32) : Option ((Nat → Int32) × (Nat → Int32)) := q_X7_findBut_24 D_levels D_now a1 FU 0 D_reach D_edge
set_option maxRecDepth 100000 in
theorem w_X7_findBut_22 {D_length : Int32} {D_text : Nat → Int32} {D_levels : Int32} {D_readLevels : Int32} {D_readAsked : Int32} {D_asked : Nat → Int32} {D_readKinds : Nat → Int32} {D_now : Nat → Int32} {D_before : Nat → Int32} {D_undoMany : Int32} {D_kept : Nat → Int32} {D_keptMany : Int32} {D_refused : Int32} {D_roundMany : Int32} {D_roundOver : Int32} {D_round : Nat → Int32} {D_terms : Int32} {D_termLevel : Nat → Int32} {D_termAdd : Nat → Int32} {D_spot : Int32} {D_number : Nat → Int32} {D_by : Nat → Int32} {a1 : Int32}  (hJ : jJ l cX7_findBut 7 D (tysU cI cS cII) RX7 Rm_X7_findBut none A none (W_X7_findBut cI cS cII DA D_length D_text D_levels D_readLevels D_readAsked D_asked D_readKinds D_now D_before D_undoMany D_kept D_keptMany D_refused D_roundMany D_roundOver D_round D_terms D_termLevel D_termAdd D_spot D_number z_D_reach z_D_edge D_by) J)  : ∀ (D_reach : Nat → Int32) (D_edge : Nat → Int32), q_X7_findBut_22 D_levels D_now a1 D_reach D_edge = some (z_D_reach, z_D_edge) → J (W_X7_findBut cI cS cII DA D_length D_text D_levels D_readLevels D_readAsked D_asked D_readKinds D_now D_before D_undoMany D_kept D_keptMany D_refused D_roundMany D_roundOver D_round D_terms D_termLevel D_termAdd D_spot D_number D_reach D_edge D_by) 22 [(0, .ref (DA 0)), (1, .int a1)] [] := by
  intro D_reach D_edge hF
  unfold q_X7_findBut_22 at hF
  refine jj_iconst hJ dX7_findBut_22 ic_0 ?_
  refine jj_istore_n hJ dX7_findBut_23 rfl (Nat.le_of_ble_eq_true rfl) (lv' := [(2, .int 0), (0, .ref (DA 0)), (1, .int a1)]) rfl ?_
  exact w_X7_findBut_24 hJ  FU 0 D_reach D_edge hF
def q_X7_findBut_2 (D_levels : Int32) (D_now : Nat → Int32) (a1 : Int32)  : Nat → Int32 → (Nat → Int32) → (Nat → Int32) → Option ((Nat → Int32) × (Nat → Int32))
  | 0, _, _, _ => none
  | n + 1, v2, D_reach, D_edge => if 100 ≤ v2 then (q_X7_findBut_22 D_levels D_now a1 D_reach D_edge) else ((wr D_edge 100 v2 ((-100000))).bind fun g2 => q_X7_findBut_2 D_levels D_now a1 n (v2 + 1) D_reach g2)
set_option maxRecDepth 100000 in
theorem w_X7_findBut_2 {D_length : Int32} {D_text : Nat → Int32} {D_levels : Int32} {D_readLevels : Int32} {D_readAsked : Int32} {D_asked : Nat → Int32} {D_readKinds : Nat → Int32} {D_now : Nat → Int32} {D_before : Nat → Int32} {D_undoMany : Int32} {D_kept : Nat → Int32} {D_keptMany : Int32} {D_refused : Int32} {D_roundMany : Int32} {D_roundOver : Int32} {D_round : Nat → Int32} {D_terms : Int32} {D_termLevel : Nat → Int32} {D_termAdd : Nat → Int32} {D_spot : Int32} {D_number : Nat → Int32} {D_by : Nat → Int32} {a1 : Int32}  (hJ : jJ l cX7_findBut 7 D (tysU cI cS cII) RX7 Rm_X7_findBut none A none (W_X7_findBut cI cS cII DA D_length D_text D_levels D_readLevels D_readAsked D_asked D_readKinds D_now D_before D_undoMany D_kept D_keptMany D_refused D_roundMany D_roundOver D_round D_terms D_termLevel D_termAdd D_spot D_number z_D_reach z_D_edge D_by) J)  : ∀ (n : Nat) (v2 : Int32) (D_reach : Nat → Int32) (D_edge : Nat → Int32), q_X7_findBut_2 D_levels D_now a1 n v2 D_reach D_edge = some (z_D_reach, z_D_edge) → J (W_X7_findBut cI cS cII DA D_length D_text D_levels D_readLevels D_readAsked D_asked D_readKinds D_now D_before D_undoMany D_kept D_keptMany D_refused D_roundMany D_roundOver D_round D_terms D_termLevel D_termAdd D_spot D_number D_reach D_edge D_by) 2 [(2, .int v2), (0, .ref (DA 0)), (1, .int a1)] [] := by
  intro n
  induction n with
  | zero =>
    intro v2 D_reach D_edge hF
    exact no_some (show (none : Option ((Nat → Int32) × (Nat → Int32))) = some (z_D_reach, z_D_edge) from hF)
  | succ n ih =>
    intro v2 D_reach D_edge hF
    rw [q_X7_findBut_2.eq_2] at hF
    refine jj_iload_n hJ dX7_findBut_2 0 rfl rfl ?_
    refine jj_bipush hJ dX7_findBut_3 bp_100 ?_
    refine jj_icmp_ge hJ 22 dX7_findBut_5 rfl (fun c1 => ?_) (fun c1 => ?_)
    · replace hF := ip c1 hF
      refine jj_lv hJ [1, 2] (lv' := [(0, .ref (DA 0)), (1, .int a1)]) rfl ?_
      exact w_X7_findBut_22 hJ  D_reach D_edge hF
    · replace hF := iq c1 hF
      refine jj_aload_n hJ dX7_findBut_8 1 rfl rfl ?_
      refine jj_get hJ lay_X7 dX7_findBut_9 0 22 rfl rfl (Nat.le_of_ble_eq_true rfl) kw_180 rfl ?_
      refine jj_iload_n hJ dX7_findBut_12 0 rfl rfl ?_
      refine jj_ldc hJ dX7_findBut_13 kw_181 ?_
      obtain ⟨g2, h3, hF⟩ := ob hF
      refine jj_iast hJ dX7_findBut_15 12 0 rfl rfl h3 (wn := (W_X7_findBut cI cS cII DA D_length D_text D_levels D_readLevels D_readAsked D_asked D_readKinds D_now D_before D_undoMany D_kept D_keptMany D_refused D_roundMany D_roundOver D_round D_terms D_termLevel D_termAdd D_spot D_number D_reach g2 D_by)) rfl ?_
      refine jj_iinc hJ dX7_findBut_16 0 rfl (v := v2 + 1) (by rw [ic_1]) (Nat.le_of_ble_eq_true rfl) (lv' := [(2, .int (v2 + 1)), (0, .ref (DA 0)), (1, .int a1)]) rfl ?_
      refine jj_goto hJ 2 dX7_findBut_19 rfl ?_
      exact ih (v2 + 1) D_reach g2 hF
def p_X7_findBut (D_levels : Int32) (D_now : Nat → Int32) (D_reach : Nat → Int32) (D_edge : Nat → Int32) (a1 : Int32) : Option ((Nat → Int32) × (Nat → Int32)) := q_X7_findBut_2 D_levels D_now a1 FU 0 D_reach D_edge
end
set_option maxRecDepth 100000 in
theorem c_X7_findBut (l : Launch) (D : va_G) (cI cS cII : ClassId) (DA : Nat → Nat) (D_length : Int32) (D_text : Nat → Int32) (D_levels : Int32) (D_readLevels : Int32) (D_readAsked : Int32) (D_asked : Nat → Int32) (D_readKinds : Nat → Int32) (D_now : Nat → Int32) (D_before : Nat → Int32) (D_undoMany : Int32) (D_kept : Nat → Int32) (D_keptMany : Int32) (D_refused : Int32) (D_roundMany : Int32) (D_roundOver : Int32) (D_round : Nat → Int32) (D_terms : Int32) (D_termLevel : Nat → Int32) (D_termAdd : Nat → Int32) (D_spot : Int32) (D_number : Nat → Int32) (D_reach : Nat → Int32) (D_edge : Nat → Int32) (D_by : Nat → Int32) (a1 : Int32) {z_D_reach : Nat → Int32} {z_D_edge : Nat → Int32} (hF : p_X7_findBut D_levels D_now D_reach D_edge a1 = some (z_D_reach, z_D_edge)) : MJ l yX7_findBut cX7_findBut 7 none Rm_X7_findBut D (tysU cI cS cII) [.ref (DA 0), .int a1] (W_X7_findBut cI cS cII DA D_length D_text D_levels D_readLevels D_readAsked D_asked D_readKinds D_now D_before D_undoMany D_kept D_keptMany D_refused D_roundMany D_roundOver D_round D_terms D_termLevel D_termAdd D_spot D_number D_reach D_edge D_by) none (W_X7_findBut cI cS cII DA D_length D_text D_levels D_readLevels D_readAsked D_asked D_readKinds D_now D_before D_undoMany D_kept D_keptMany D_refused D_roundMany D_roundOver D_round D_terms D_termLevel D_termAdd D_spot D_number z_D_reach z_D_edge D_by) := by
  refine mj_of (own := RX7) (by decide) rfl (Nat.le_of_ble_eq_true rfl) (fun J hJ => ?_)
  show J (W_X7_findBut cI cS cII DA D_length D_text D_levels D_readLevels D_readAsked D_asked D_readKinds D_now D_before D_undoMany D_kept D_keptMany D_refused D_roundMany D_roundOver D_round D_terms D_termLevel D_termAdd D_spot D_number D_reach D_edge D_by) 0 [(0, .ref (DA 0)), (1, .int a1)] []
  unfold p_X7_findBut at hF
  refine jj_iconst hJ dX7_findBut_0 ic_0 ?_
  refine jj_istore_n hJ dX7_findBut_1 rfl (Nat.le_of_ble_eq_true rfl) (lv' := [(2, .int 0), (0, .ref (DA 0)), (1, .int a1)]) rfl ?_
  exact w_X7_findBut_2 hJ  FU 0 D_reach D_edge hF
