theorem kw_190 : Cond.methodLink RX7 144 yX7_findBut ∈ lw_tbl := tb3 (i := 151) rfl
theorem kw_191 : cwOk yX7_findBut cX7_findBut 7 none 1 := ⟨tb3 (i := 154) rfl, tb1 (i := 15) rfl, by decide, by decide, by decide +kernel⟩
theorem kw_192 : Cond.instanceMethod yX7_findBut ∈ lw_tbl := tb3 (i := 153) rfl
theorem kw_193 : Cond.selects RX7 yX7_findBut yX7_findBut ∈ lw_tbl := tsel (i := 57) (q := (⟨"UniverseLevelsModel", "findBut", "(I)V"⟩, 24)) rfl
theorem bp_110 : (Int8.ofInt (110)).toInt32 = (110 : Int32) := by decide
theorem kw_194 : Cond.fieldLink RX7 46 (TX7 23).1 (TX7 23).2.1 (TX7 23).2.2.1 ∈ lw_tbl := tb3 (i := 197) rfl
theorem kw_195 : Cond.fieldLink RX7 112 (TX7 13).1 (TX7 13).2.1 (TX7 13).2.2.1 ∈ lw_tbl := tb3 (i := 187) rfl
theorem kw_196 : Cond.fieldLink RX7 28 (TX7 15).1 (TX7 15).2.1 (TX7 15).2.2.1 ∈ lw_tbl := tb3 (i := 189) rfl
theorem kw_197 : Cond.fieldLink RX7 147 (TX7 14).1 (TX7 14).2.1 (TX7 14).2.2.1 ∈ lw_tbl := tb3 (i := 188) rfl
theorem kw_198 : Cond.methodLink RX7 150 yX7_weightTo ∈ lw_tbl := tb3 (i := 143) rfl
theorem kw_199 : cwOk yX7_weightTo cX7_weightTo 3 (some .int) 2 := ⟨tb3 (i := 146) rfl, tb1 (i := 15) rfl, by decide, by decide, by decide +kernel⟩
theorem kw_200 : Cond.instanceMethod yX7_weightTo ∈ lw_tbl := tb3 (i := 145) rfl
theorem kw_201 : Cond.selects RX7 yX7_weightTo yX7_weightTo ∈ lw_tbl := tsel (i := 55) (q := (⟨"UniverseLevelsModel", "weightTo", "(II)I"⟩, 24)) rfl
theorem kw_202 : Cond.methodLink RX7 154 yX7_find ∈ lw_tbl := tb3 (i := 147) rfl
theorem kw_203 : cwOk yX7_find cX7_find 1 none 0 := ⟨tb3 (i := 150) rfl, tb1 (i := 15) rfl, by decide, by decide, by decide +kernel⟩
theorem kw_204 : Cond.instanceMethod yX7_find ∈ lw_tbl := tb3 (i := 149) rfl
theorem kw_205 : Cond.selects RX7 yX7_find yX7_find ∈ lw_tbl := tsel (i := 56) (q := (⟨"UniverseLevelsModel", "find", "()V"⟩, 24)) rfl
theorem kw_206 : cwOk yX7_clashes cX7_clashes 2 (some .boolean) 2 := ⟨tb3 (i := 165) rfl, tb1 (i := 15) rfl, by decide, by decide, by decide +kernel⟩
theorem kw_207 : Cond.methodLink RX7 157 yX7_clashes ∈ lw_tbl := tb3 (i := 163) rfl
theorem kw_208 : Cond.static yX7_clashes ∈ lw_tbl := tb3 (i := 164) rfl
theorem kw_209 : Cond.fieldLink RX7 109 (TX7 12).1 (TX7 12).2.1 (TX7 12).2.2.1 ∈ lw_tbl := tb3 (i := 186) rfl
theorem kw_210 : Cond.methodLink RX7 160 yX7_findRound ∈ lw_tbl := tb3 (i := 166) rfl
theorem kw_211 : cwOk yX7_findRound cX7_findRound 9 none 3 := ⟨tb3 (i := 169) rfl, tb1 (i := 15) rfl, by decide, by decide, by decide +kernel⟩
theorem kw_212 : Cond.instanceMethod yX7_findRound ∈ lw_tbl := tb3 (i := 168) rfl
theorem kw_213 : Cond.selects RX7 yX7_findRound yX7_findRound ∈ lw_tbl := tsel (i := 58) (q := (⟨"UniverseLevelsModel", "findRound", "(III)V"⟩, 24)) rfl
theorem kw_214 : Cond.methodLink RX7 115 yX7_mayTake ∈ lw_tbl := tb3 (i := 139) rfl
theorem kw_215 : cwOk yX7_mayTake cX7_mayTake 5 (some .boolean) 3 := ⟨tb3 (i := 142) rfl, tb1 (i := 15) rfl, by decide, by decide, by decide +kernel⟩
theorem kw_216 : Cond.instanceMethod yX7_mayTake ∈ lw_tbl := tb3 (i := 141) rfl
theorem kw_217 : Cond.selects RX7 yX7_mayTake yX7_mayTake ∈ lw_tbl := tsel (i := 54) (q := (⟨"UniverseLevelsModel", "mayTake", "(III)Z"⟩, 24)) rfl
theorem kw_218 : Cond.methodLink RX7 119 yX7_takeBound ∈ lw_tbl := tb3 (i := 170) rfl
theorem kw_219 : cwOk yX7_takeBound cX7_takeBound 5 none 3 := ⟨tb3 (i := 173) rfl, tb1 (i := 15) rfl, by decide, by decide, by decide +kernel⟩
theorem kw_220 : Cond.instanceMethod yX7_takeBound ∈ lw_tbl := tb3 (i := 172) rfl
theorem kw_221 : Cond.selects RX7 yX7_takeBound yX7_takeBound ∈ lw_tbl := tsel (i := 59) (q := (⟨"UniverseLevelsModel", "takeBound", "(III)V"⟩, 24)) rfl
theorem kw_222 : Cond.fieldLink RX7 122 (TX7 16).1 (TX7 16).2.1 (TX7 16).2.2.1 ∈ lw_tbl := tb3 (i := 190) rfl
theorem kw_223 : Cond.fieldLink RX7 125 (TX7 9).1 (TX7 9).2.1 (TX7 9).2.2.1 ∈ lw_tbl := tb3 (i := 183) rfl
theorem kw_224 : Cond.fieldLink RX7 128 (TX7 11).1 (TX7 11).2.1 (TX7 11).2.2.1 ∈ lw_tbl := tb3 (i := 185) rfl
theorem bp_m2 : (Int8.ofInt (-2)).toInt32 = (-2 : Int32) := by decide
theorem kw_225 : Cond.methodLink RX7 60 yX7_begin ∈ lw_tbl := tb3 (i := 135) rfl
theorem kw_226 : cwOk yX7_begin cX7_begin 2 none 0 := ⟨tb3 (i := 138) rfl, tb1 (i := 15) rfl, by decide, by decide, by decide +kernel⟩
theorem kw_227 : Cond.instanceMethod yX7_begin ∈ lw_tbl := tb3 (i := 137) rfl
theorem kw_228 : Cond.selects RX7 yX7_begin yX7_begin ∈ lw_tbl := tsel (i := 53) (q := (⟨"UniverseLevelsModel", "begin", "()V"⟩, 24)) rfl
theorem lc_0 : Int64.ofNat (0) = (0 : Int64) := by decide
theorem kw_229 : Cond.constantLong RX7 131 (-9) ∈ lw_tbl := tb4 (i := 83) rfl
theorem kw_230 : Cond.constantLong RX7 133 (9) ∈ lw_tbl := tb4 (i := 84) rfl
theorem kw_231 : Cond.methodLink RX7 163 yX7_isLevel ∈ lw_tbl := tb4 (i := 51) rfl
theorem kw_232 : cwOk yX7_isLevel cX7_isLevel 2 (some .boolean) 1 := ⟨tb4 (i := 54) rfl, tb1 (i := 15) rfl, by decide, by decide, by decide +kernel⟩
theorem kw_233 : Cond.instanceMethod yX7_isLevel ∈ lw_tbl := tb4 (i := 53) rfl
theorem kw_234 : Cond.selects RX7 yX7_isLevel yX7_isLevel ∈ lw_tbl := tsel (i := 64) (q := (⟨"UniverseLevelsModel", "isLevel", "(I)Z"⟩, 24)) rfl
theorem kw_235 : Cond.constantLong RX7 166 (4) ∈ lw_tbl := tb4 (i := 55) rfl
theorem kw_236 : Cond.methodLink RX7 168 yX7_valueOf ∈ lw_tbl := tb4 (i := 56) rfl
theorem kw_237 : cwOk yX7_valueOf cX7_valueOf 4 (some .int) 1 := ⟨tb4 (i := 59) rfl, tb1 (i := 15) rfl, by decide, by decide, by decide +kernel⟩
theorem kw_238 : Cond.instanceMethod yX7_valueOf ∈ lw_tbl := tb4 (i := 58) rfl
theorem kw_239 : Cond.selects RX7 yX7_valueOf yX7_valueOf ∈ lw_tbl := tsel (i := 65) (q := (⟨"UniverseLevelsModel", "valueOf", "(I)I"⟩, 24)) rfl
theorem kw_240 : Cond.methodLink RX7 174 yX7_isFloating ∈ lw_tbl := tb4 (i := 64) rfl
theorem kw_241 : cwOk yX7_isFloating cX7_isFloating 2 (some .boolean) 1 := ⟨tb4 (i := 67) rfl, tb1 (i := 15) rfl, by decide, by decide, by decide +kernel⟩
theorem kw_242 : Cond.instanceMethod yX7_isFloating ∈ lw_tbl := tb4 (i := 66) rfl
theorem kw_243 : Cond.selects RX7 yX7_isFloating yX7_isFloating ∈ lw_tbl := tsel (i := 67) (q := (⟨"UniverseLevelsModel", "isFloating", "(I)Z"⟩, 24)) rfl
theorem kw_244 : Cond.methodLink RX7 171 yX7_areSame ∈ lw_tbl := tb4 (i := 60) rfl
theorem kw_245 : cwOk yX7_areSame cX7_areSame 3 (some .boolean) 2 := ⟨tb4 (i := 63) rfl, tb1 (i := 15) rfl, by decide, by decide, by decide +kernel⟩
theorem kw_246 : Cond.instanceMethod yX7_areSame ∈ lw_tbl := tb4 (i := 62) rfl
theorem kw_247 : Cond.selects RX7 yX7_areSame yX7_areSame ∈ lw_tbl := tsel (i := 66) (q := (⟨"UniverseLevelsModel", "areSame", "(II)Z"⟩, 24)) rfl
theorem sp_1000 : (Int16.ofInt (1000)).toInt32 = (1000 : Int32) := by decide
section
def W_X7_find (cI cS cII : ClassId) (DA : Nat → Nat) (D_length : Int32) (D_text : Nat → Int32) (D_levels : Int32) (D_readLevels : Int32) (D_readAsked : Int32) (D_asked : Nat → Int32) (D_readKinds : Nat → Int32) (D_now : Nat → Int32) (D_before : Nat → Int32) (D_undoMany : Int32) (D_kept : Nat → Int32) (D_keptMany : Int32) (D_refused : Int32) (D_roundMany : Int32) (D_roundOver : Int32) (D_round : Nat → Int32) (D_terms : Int32) (D_termLevel : Nat → Int32) (D_termAdd : Nat → Int32) (D_spot : Int32) (D_number : Nat → Int32) (D_reach : Nat → Int32) (D_edge : Nat → Int32) (D_by : Nat → Int32) : va_W := [((DA 0), .inr (7, [.int D_length, .ref (DA 1), .int D_levels, .int D_readLevels, .int D_readAsked, .ref (DA 2), .ref (DA 3), .ref (DA 4), .ref (DA 5), .int D_undoMany, .ref (DA 6), .int D_keptMany, .int D_refused, .int D_roundMany, .int D_roundOver, .ref (DA 7), .int D_terms, .ref (DA 8), .ref (DA 9), .int D_spot, .ref (DA 10), .ref (DA 11), .ref (DA 12), .ref (DA 13)])), ((DA 1), .inl (cI, 200, .inl D_text)), ((DA 2), .inl (cI, 160, .inl D_asked)), ((DA 3), .inl (cI, 10, .inl D_readKinds)), ((DA 4), .inl (cI, 59, .inl D_now)), ((DA 5), .inl (cI, 472, .inl D_before)), ((DA 6), .inl (cI, 118, .inl D_kept)), ((DA 7), .inl (cI, 12, .inl D_round)), ((DA 8), .inl (cI, 6, .inl D_termLevel)), ((DA 9), .inl (cI, 6, .inl D_termAdd)), ((DA 10), .inl (cI, 3, .inl D_number)), ((DA 11), .inl (cI, 100, .inl D_reach)), ((DA 12), .inl (cI, 100, .inl D_edge)), ((DA 13), .inl (cI, 110, .inl D_by))]
abbrev Rm_X7_find : Room := { frames := 2, cells := 0, slots := 0, locals := 47 }
variable {l : Launch} {D : va_G} {cI cS cII : ClassId} {DA : Nat → Nat} {A : Nat → Prop} {J : jT}
variable {z_D_reach : Nat → Int32} {z_D_edge : Nat → Int32}
def p_X7_find (D_levels : Int32) (D_now : Nat → Int32) (D_reach : Nat → Int32) (D_edge : Nat → Int32) : Option ((Nat → Int32) × (Nat → Int32)) := (p_X7_findBut D_levels D_now D_reach D_edge 0).bind fun (g2, g3) => some (g2, g3)
end
set_option maxRecDepth 100000 in
theorem c_X7_find (l : Launch) (D : va_G) (cI cS cII : ClassId) (DA : Nat → Nat) (D_length : Int32) (D_text : Nat → Int32) (D_levels : Int32) (D_readLevels : Int32) (D_readAsked : Int32) (D_asked : Nat → Int32) (D_readKinds : Nat → Int32) (D_now : Nat → Int32) (D_before : Nat → Int32) (D_undoMany : Int32) (D_kept : Nat → Int32) (D_keptMany : Int32) (D_refused : Int32) (D_roundMany : Int32) (D_roundOver : Int32) (D_round : Nat → Int32) (D_terms : Int32) (D_termLevel : Nat → Int32) (D_termAdd : Nat → Int32) (D_spot : Int32) (D_number : Nat → Int32) (D_reach : Nat → Int32) (D_edge : Nat → Int32) (D_by : Nat → Int32)  {z_D_reach : Nat → Int32} {z_D_edge : Nat → Int32} (hF : p_X7_find D_levels D_now D_reach D_edge = some (z_D_reach, z_D_edge)) : MJ l yX7_find cX7_find 1 none Rm_X7_find D (tysU cI cS cII) [.ref (DA 0)] (W_X7_find cI cS cII DA D_length D_text D_levels D_readLevels D_readAsked D_asked D_readKinds D_now D_before D_undoMany D_kept D_keptMany D_refused D_roundMany D_roundOver D_round D_terms D_termLevel D_termAdd D_spot D_number D_reach D_edge D_by) none (W_X7_find cI cS cII DA D_length D_text D_levels D_readLevels D_readAsked D_asked D_readKinds D_now D_before D_undoMany D_kept D_keptMany D_refused D_roundMany D_roundOver D_round D_terms D_termLevel D_termAdd D_spot D_number z_D_reach z_D_edge D_by) := by
  refine mj_of (own := RX7) (by decide) rfl (Nat.le_of_ble_eq_true rfl) (fun J hJ => ?_)
  show J (W_X7_find cI cS cII DA D_length D_text D_levels D_readLevels D_readAsked D_asked D_readKinds D_now D_before D_undoMany D_kept D_keptMany D_refused D_roundMany D_roundOver D_round D_terms D_termLevel D_termAdd D_spot D_number D_reach D_edge D_by) 0 [(0, .ref (DA 0))] []
  unfold p_X7_find at hF
  refine jj_aload_n hJ dX7_find_0 0 rfl rfl ?_
  refine jj_iconst hJ dX7_find_1 ic_0 ?_
  obtain ⟨⟨g2, g3⟩, h1, hF⟩ := ob hF
  refine jj_callV hJ (c_X7_findBut l D cI cS cII DA D_length D_text D_levels D_readLevels D_readAsked D_asked D_readKinds D_now D_before D_undoMany D_kept D_keptMany D_refused D_roundMany D_roundOver D_round D_terms D_termLevel D_termAdd D_spot D_number D_reach D_edge D_by 0 h1) dX7_find_2 kw_191 ⟨Nat.le_of_ble_eq_true rfl, Nat.le_of_ble_eq_true rfl, rfl, rfl⟩ kw_190 kw_192 kw_193 0 rfl rfl rfl rfl (Nat.le_of_ble_eq_true rfl) [0, 1, 2, 3, 4, 5, 6, 7, 8, 9, 10, 11, 12, 13] rfl rfl (wn := (W_X7_find cI cS cII DA D_length D_text D_levels D_readLevels D_readAsked D_asked D_readKinds D_now D_before D_undoMany D_kept D_keptMany D_refused D_roundMany D_roundOver D_round D_terms D_termLevel D_termAdd D_spot D_number g2 g3 D_by)) (jNew_sel rfl [some 0, some 1, some 2, some 3, some 4, some 5, some 6, some 7, some 8, some 9, some 10, some 11, some 12, some 13] (by decide +kernel) rfl) ?_
  cases Option.some.inj hF
  exact jj_vret hJ dX7_find_5
section
abbrev Rm_X7_clashes : Room := { frames := 1, cells := 0, slots := 0, locals := 20 }
variable {l : Launch} {D : va_G} {cI cS cII : ClassId}  {A : Nat → Prop} {J : jT}
variable {z_r : Int32}
def p_X7_clashes (a0 : Int32) (a1 : Int32) : Option (Int32) := (p_X7_isWay a0).bind fun r2 => if r2 = 0 then (some 0) else (if (a0 + a1) ≤ 0 then (some 0) else (some 1))
end
set_option maxRecDepth 100000 in
theorem c_X7_clashes (l : Launch) (D : va_G) (cI cS cII : ClassId)   (a0 : Int32) (a1 : Int32) {z_r : Int32} (hF : p_X7_clashes a0 a1 = some z_r) : MJ l yX7_clashes cX7_clashes 2 (some .boolean) Rm_X7_clashes D (tysU cI cS cII) [.int a0, .int a1] ([] : va_W) (some z_r) ([] : va_W) := by
  refine mj_of (own := RX7) (by decide) rfl (Nat.le_of_ble_eq_true rfl) (fun J hJ => ?_)
  show J ([] : va_W) 0 [(0, .int a0), (1, .int a1)] []
  unfold p_X7_clashes at hF
  refine jj_iload_n hJ dX7_clashes_0 0 rfl rfl ?_
  obtain ⟨r2, h1, hF⟩ := ob hF
  refine jj_callS0 hJ (c_X7_isWay l D cI cS cII   a0 h1) dX7_clashes_1 kw_187 ⟨Nat.le_of_ble_eq_true rfl, Nat.le_of_ble_eq_true rfl, rfl, rfl⟩ kw_188 kw_189 rfl rfl (Nat.le_of_ble_eq_true rfl) [] rfl rfl ?_
  refine jj_if_eq hJ 17 dX7_clashes_4 rfl (fun c3 => ?_) (fun c3 => ?_)
  · replace hF := ip c3 hF
    refine jj_iconst hJ dX7_clashes_17 ic_0 ?_
    cases Option.some.inj hF
    exact jj_zret hJ (Or.inl rfl) dX7_clashes_18
  · replace hF := iq c3 hF
    refine jj_iload_n hJ dX7_clashes_7 0 rfl rfl ?_
    refine jj_iload_n hJ dX7_clashes_8 1 rfl rfl ?_
    refine jj_iadd hJ dX7_clashes_9 ?_
    refine jj_if_le hJ 17 dX7_clashes_10 rfl (fun c4 => ?_) (fun c4 => ?_)
    · replace hF := ip c4 hF
      refine jj_iconst hJ dX7_clashes_17 ic_0 ?_
      cases Option.some.inj hF
      exact jj_zret hJ (Or.inl rfl) dX7_clashes_18
    · replace hF := iq c4 hF
      refine jj_iconst hJ dX7_clashes_13 ic_1 ?_
      refine jj_goto hJ 18 dX7_clashes_14 rfl ?_
      cases Option.some.inj hF
      exact jj_zret hJ (Or.inr rfl) dX7_clashes_18
section
def W_X7_findRound (cI cS cII : ClassId) (DA : Nat → Nat) (D_length : Int32) (D_text : Nat → Int32) (D_levels : Int32) (D_readLevels : Int32) (D_readAsked : Int32) (D_asked : Nat → Int32) (D_readKinds : Nat → Int32) (D_now : Nat → Int32) (D_before : Nat → Int32) (D_undoMany : Int32) (D_kept : Nat → Int32) (D_keptMany : Int32) (D_refused : Int32) (D_roundMany : Int32) (D_roundOver : Int32) (D_round : Nat → Int32) (D_terms : Int32) (D_termLevel : Nat → Int32) (D_termAdd : Nat → Int32) (D_spot : Int32) (D_number : Nat → Int32) (D_reach : Nat → Int32) (D_edge : Nat → Int32) (D_by : Nat → Int32) : va_W := [((DA 0), .inr (7, [.int D_length, .ref (DA 1), .int D_levels, .int D_readLevels, .int D_readAsked, .ref (DA 2), .ref (DA 3), .ref (DA 4), .ref (DA 5), .int D_undoMany, .ref (DA 6), .int D_keptMany, .int D_refused, .int D_roundMany, .int D_roundOver, .ref (DA 7), .int D_terms, .ref (DA 8), .ref (DA 9), .int D_spot, .ref (DA 10), .ref (DA 11), .ref (DA 12), .ref (DA 13)])), ((DA 1), .inl (cI, 200, .inl D_text)), ((DA 2), .inl (cI, 160, .inl D_asked)), ((DA 3), .inl (cI, 10, .inl D_readKinds)), ((DA 4), .inl (cI, 59, .inl D_now)), ((DA 5), .inl (cI, 472, .inl D_before)), ((DA 6), .inl (cI, 118, .inl D_kept)), ((DA 7), .inl (cI, 12, .inl D_round)), ((DA 8), .inl (cI, 6, .inl D_termLevel)), ((DA 9), .inl (cI, 6, .inl D_termAdd)), ((DA 10), .inl (cI, 3, .inl D_number)), ((DA 11), .inl (cI, 100, .inl D_reach)), ((DA 12), .inl (cI, 100, .inl D_edge)), ((DA 13), .inl (cI, 110, .inl D_by))]
abbrev Rm_X7_findRound : Room := { frames := 1, cells := 0, slots := 0, locals := 20 }
variable {l : Launch} {D : va_G} {cI cS cII : ClassId} {DA : Nat → Nat} {A : Nat → Prop} {J : jT}
variable {z_D_roundMany : Int32} {z_D_roundOver : Int32} {z_D_round : Nat → Int32} {z_D_by : Nat → Int32}
def q_X7_findRound_185 (D_levels : Int32) (D_reach : Nat → Int32) (D_edge : Nat → Int32) (a1 : Int32) (a2 : Int32) (a3 : Int32) (k38 : Int32 → Int32 → Int32 → (Nat → Int32) → (Nat → Int32) → Option (Int32 × Int32 × (Nat → Int32) × (Nat → Int32))) (k70 : Int32 → Int32 → Int32 → Int32 → (Nat → Int32) → (Nat → Int32) → Option (Int32 × Int32 × (Nat → Int32) × (Nat → Int32))) (v5 : Int32) (v4 : Int32) (D_roundMany : Int32) (D_roundOver : Int32) (D_round : Nat → Int32) (D_by : Nat → Int32) : Option (Int32 × Int32 × (Nat → Int32) × (Nat → Int32)) := k70 (v5 + 1) v4 D_roundMany D_roundOver D_round D_by
set_option maxRecDepth 100000 in
theorem w_X7_findRound_185 {D_length : Int32} {D_text : Nat → Int32} {D_levels : Int32} {D_readLevels : Int32} {D_readAsked : Int32} {D_asked : Nat → Int32} {D_readKinds : Nat → Int32} {D_now : Nat → Int32} {D_before : Nat → Int32} {D_undoMany : Int32} {D_kept : Nat → Int32} {D_keptMany : Int32} {D_refused : Int32} {D_terms : Int32} {D_termLevel : Nat → Int32} {D_termAdd : Nat → Int32} {D_spot : Int32} {D_number : Nat → Int32} {D_reach : Nat → Int32} {D_edge : Nat → Int32} {a1 : Int32} {a2 : Int32} {a3 : Int32} {k38 : Int32 → Int32 → Int32 → (Nat → Int32) → (Nat → Int32) → Option (Int32 × Int32 × (Nat → Int32) × (Nat → Int32))} {k70 : Int32 → Int32 → Int32 → Int32 → (Nat → Int32) → (Nat → Int32) → Option (Int32 × Int32 × (Nat → Int32) × (Nat → Int32))} (hJ : jJ l cX7_findRound 9 D (tysU cI cS cII) RX7 Rm_X7_findRound none A none (W_X7_findRound cI cS cII DA D_length D_text D_levels D_readLevels D_readAsked D_asked D_readKinds D_now D_before D_undoMany D_kept D_keptMany D_refused z_D_roundMany z_D_roundOver z_D_round D_terms D_termLevel D_termAdd D_spot D_number D_reach D_edge z_D_by) J) (hk38 : ∀ (v4 : Int32) (D_roundMany : Int32) (D_roundOver : Int32) (D_round : Nat → Int32) (D_by : Nat → Int32), k38 v4 D_roundMany D_roundOver D_round D_by = some (z_D_roundMany, z_D_roundOver, z_D_round, z_D_by) → J (W_X7_findRound cI cS cII DA D_length D_text D_levels D_readLevels D_readAsked D_asked D_readKinds D_now D_before D_undoMany D_kept D_keptMany D_refused D_roundMany D_roundOver D_round D_terms D_termLevel D_termAdd D_spot D_number D_reach D_edge D_by) 38 [(4, .int v4), (0, .ref (DA 0)), (1, .int a1), (2, .int a2), (3, .int a3)] []) (hk70 : ∀ (v5 : Int32) (v4 : Int32) (D_roundMany : Int32) (D_roundOver : Int32) (D_round : Nat → Int32) (D_by : Nat → Int32), k70 v5 v4 D_roundMany D_roundOver D_round D_by = some (z_D_roundMany, z_D_roundOver, z_D_round, z_D_by) → J (W_X7_findRound cI cS cII DA D_length D_text D_levels D_readLevels D_readAsked D_asked D_readKinds D_now D_before D_undoMany D_kept D_keptMany D_refused D_roundMany D_roundOver D_round D_terms D_termLevel D_termAdd D_spot D_number D_reach D_edge D_by) 70 [(5, .int v5), (4, .int v4), (0, .ref (DA 0)), (1, .int a1), (2, .int a2), (3, .int a3)] []) : ∀ (v5 : Int32) (v4 : Int32) (D_roundMany : Int32) (D_roundOver : Int32) (D_round : Nat → Int32) (D_by : Nat → Int32), q_X7_findRound_185 D_levels D_reach D_edge a1 a2 a3 k38 k70 v5 v4 D_roundMany D_roundOver D_round D_by = some (z_D_roundMany, z_D_roundOver, z_D_round, z_D_by) → J (W_X7_findRound cI cS cII DA D_length D_text D_levels D_readLevels D_readAsked D_asked D_readKinds D_now D_before D_undoMany D_kept D_keptMany D_refused D_roundMany D_roundOver D_round D_terms D_termLevel D_termAdd D_spot D_number D_reach D_edge D_by) 185 [(5, .int v5), (4, .int v4), (0, .ref (DA 0)), (1, .int a1), (2, .int a2), (3, .int a3)] [] := by
  intro v5 v4 D_roundMany D_roundOver D_round D_by hF
  unfold q_X7_findRound_185 at hF
  refine jj_iinc hJ dX7_findRound_185 0 rfl (v := v5 + 1) (by rw [ic_1]) (Nat.le_of_ble_eq_true rfl) (lv' := [(5, .int (v5 + 1)), (4, .int v4), (0, .ref (DA 0)), (1, .int a1), (2, .int a2), (3, .int a3)]) rfl ?_
  refine jj_goto hJ 70 dX7_findRound_188 rfl ?_
  exact hk70 (v5 + 1) v4 D_roundMany D_roundOver D_round D_by hF
def q_X7_findRound_82 (D_levels : Int32) (D_reach : Nat → Int32) (D_edge : Nat → Int32) (a1 : Int32) (a2 : Int32) (a3 : Int32) (k38 : Int32 → Int32 → Int32 → (Nat → Int32) → (Nat → Int32) → Option (Int32 × Int32 × (Nat → Int32) × (Nat → Int32))) (k70 : Int32 → Int32 → Int32 → Int32 → (Nat → Int32) → (Nat → Int32) → Option (Int32 × Int32 × (Nat → Int32) × (Nat → Int32))) : Nat → Int32 → Int32 → Int32 → Int32 → Int32 → (Nat → Int32) → (Nat → Int32) → Option (Int32 × Int32 × (Nat → Int32) × (Nat → Int32))
  | 0, _, _, _, _, _, _, _ => none
  | n + 1, v6, v5, v4, D_roundMany, D_roundOver, D_round, D_by => if D_levels ≤ v6 then (q_X7_findRound_185 D_levels D_reach D_edge a1 a2 a3 k38 k70 v5 v4 D_roundMany D_roundOver D_round D_by) else ((rd D_edge 100 ((10 * v5) + v6)).bind fun x2 => (rd D_by 110 (((10 * v4) - 10) + v6)).bind fun x4 => (p_X7_isWay x2).bind fun r7 => if r7 = 0 then (q_X7_findRound_82 D_levels D_reach D_edge a1 a2 a3 k38 k70 n (v6 + 1) v5 v4 D_roundMany D_roundOver D_round D_by) else ((p_X7_isWay x4).bind fun r10 => if r10 = 0 then (q_X7_findRound_82 D_levels D_reach D_edge a1 a2 a3 k38 k70 n (v6 + 1) v5 v4 D_roundMany D_roundOver D_round D_by) else ((rd D_by 110 ((10 * v4) + v5)).bind fun x12 => if (x2 + x4) ≤ x12 then (q_X7_findRound_82 D_levels D_reach D_edge a1 a2 a3 k38 k70 n (v6 + 1) v5 v4 D_roundMany D_roundOver D_round D_by) else ((wr D_by 110 ((10 * v4) + v5) (x2 + x4)).bind fun g15 => q_X7_findRound_82 D_levels D_reach D_edge a1 a2 a3 k38 k70 n (v6 + 1) v5 v4 D_roundMany D_roundOver D_round g15))))
set_option maxRecDepth 100000 in
theorem w_X7_findRound_82 {D_length : Int32} {D_text : Nat → Int32} {D_levels : Int32} {D_readLevels : Int32} {D_readAsked : Int32} {D_asked : Nat → Int32} {D_readKinds : Nat → Int32} {D_now : Nat → Int32} {D_before : Nat → Int32} {D_undoMany : Int32} {D_kept : Nat → Int32} {D_keptMany : Int32} {D_refused : Int32} {D_terms : Int32} {D_termLevel : Nat → Int32} {D_termAdd : Nat → Int32} {D_spot : Int32} {D_number : Nat → Int32} {D_reach : Nat → Int32} {D_edge : Nat → Int32} {a1 : Int32} {a2 : Int32} {a3 : Int32} {k38 : Int32 → Int32 → Int32 → (Nat → Int32) → (Nat → Int32) → Option (Int32 × Int32 × (Nat → Int32) × (Nat → Int32))} {k70 : Int32 → Int32 → Int32 → Int32 → (Nat → Int32) → (Nat → Int32) → Option (Int32 × Int32 × (Nat → Int32) × (Nat → Int32))} (hJ : jJ l cX7_findRound 9 D (tysU cI cS cII) RX7 Rm_X7_findRound none A none (W_X7_findRound cI cS cII DA D_length D_text D_levels D_readLevels D_readAsked D_asked D_readKinds D_now D_before D_undoMany D_kept D_keptMany D_refused z_D_roundMany z_D_roundOver z_D_round D_terms D_termLevel D_termAdd D_spot D_number D_reach D_edge z_D_by) J) (hk38 : ∀ (v4 : Int32) (D_roundMany : Int32) (D_roundOver : Int32) (D_round : Nat → Int32) (D_by : Nat → Int32), k38 v4 D_roundMany D_roundOver D_round D_by = some (z_D_roundMany, z_D_roundOver, z_D_round, z_D_by) → J (W_X7_findRound cI cS cII DA D_length D_text D_levels D_readLevels D_readAsked D_asked D_readKinds D_now D_before D_undoMany D_kept D_keptMany D_refused D_roundMany D_roundOver D_round D_terms D_termLevel D_termAdd D_spot D_number D_reach D_edge D_by) 38 [(4, .int v4), (0, .ref (DA 0)), (1, .int a1), (2, .int a2), (3, .int a3)] []) (hk70 : ∀ (v5 : Int32) (v4 : Int32) (D_roundMany : Int32) (D_roundOver : Int32) (D_round : Nat → Int32) (D_by : Nat → Int32), k70 v5 v4 D_roundMany D_roundOver D_round D_by = some (z_D_roundMany, z_D_roundOver, z_D_round, z_D_by) → J (W_X7_findRound cI cS cII DA D_length D_text D_levels D_readLevels D_readAsked D_asked D_readKinds D_now D_before D_undoMany D_kept D_keptMany D_refused D_roundMany D_roundOver D_round D_terms D_termLevel D_termAdd D_spot D_number D_reach D_edge D_by) 70 [(5, .int v5), (4, .int v4), (0, .ref (DA 0)), (1, .int a1), (2, .int a2), (3, .int a3)] []) : ∀ (n : Nat) (v6 : Int32) (v5 : Int32) (v4 : Int32) (D_roundMany : Int32) (D_roundOver : Int32) (D_round : Nat → Int32) (D_by : Nat → Int32), q_X7_findRound_82 D_levels D_reach D_edge a1 a2 a3 k38 k70 n v6 v5 v4 D_roundMany D_roundOver D_round D_by = some (z_D_roundMany, z_D_roundOver, z_D_round, z_D_by) → J (W_X7_findRound cI cS cII DA D_length D_text D_levels D_readLevels D_readAsked D_asked D_readKinds D_now D_before D_undoMany D_kept D_keptMany D_refused D_roundMany D_roundOver D_round D_terms D_termLevel D_termAdd D_spot D_number D_reach D_edge D_by) 82 [(6, .int v6), (5, .int v5), (4, .int v4), (0, .ref (DA 0)), (1, .int a1), (2, .int a2), (3, .int a3)] [] := by
  intro n
  induction n with
  | zero =>
    intro v6 v5 v4 D_roundMany D_roundOver D_round D_by hF
    exact no_some (show (none : Option (Int32 × Int32 × (Nat → Int32) × (Nat → Int32))) = some (z_D_roundMany, z_D_roundOver, z_D_round, z_D_by) from hF)
  | succ n ih =>
    intro v6 v5 v4 D_roundMany D_roundOver D_round D_by hF
    rw [q_X7_findRound_82.eq_2] at hF
    refine jj_iload hJ dX7_findRound_82 0 rfl ?_
    refine jj_aload_n hJ dX7_findRound_84 3 rfl rfl ?_
    refine jj_get hJ lay_X7 dX7_findRound_85 0 2 rfl rfl (Nat.le_of_ble_eq_true rfl) kw_186 rfl ?_
    refine jj_icmp_ge hJ 185 dX7_findRound_88 rfl (fun c1 => ?_) (fun c1 => ?_)
    · replace hF := ip c1 hF
      refine jj_lv hJ [1, 2, 3, 4, 5, 6] (lv' := [(5, .int v5), (4, .int v4), (0, .ref (DA 0)), (1, .int a1), (2, .int a2), (3, .int a3)]) rfl ?_
      exact w_X7_findRound_185 hJ hk38 hk70 v5 v4 D_roundMany D_roundOver D_round D_by hF
    · replace hF := iq c1 hF
      refine jj_aload_n hJ dX7_findRound_91 3 rfl rfl ?_
      refine jj_get hJ lay_X7 dX7_findRound_92 0 22 rfl rfl (Nat.le_of_ble_eq_true rfl) kw_180 rfl ?_
      refine jj_bipush hJ dX7_findRound_95 bp_10 ?_
      refine jj_iload hJ dX7_findRound_97 1 rfl ?_
      refine jj_imul hJ dX7_findRound_99 ?_
      refine jj_iload hJ dX7_findRound_100 0 rfl ?_
      refine jj_iadd hJ dX7_findRound_102 ?_
      obtain ⟨x2, h3, hF⟩ := ob hF
      refine jj_iald hJ dX7_findRound_103 12 0 rfl rfl h3 ?_
      refine jj_istore hJ dX7_findRound_104 (Nat.le_of_ble_eq_true rfl) (lv' := [(7, .int x2), (6, .int v6), (5, .int v5), (4, .int v4), (0, .ref (DA 0)), (1, .int a1), (2, .int a2), (3, .int a3)]) rfl ?_
      refine jj_aload_n hJ dX7_findRound_106 4 rfl rfl ?_
      refine jj_get hJ lay_X7 dX7_findRound_107 0 23 rfl rfl (Nat.le_of_ble_eq_true rfl) kw_194 rfl ?_
      refine jj_bipush hJ dX7_findRound_110 bp_10 ?_
      refine jj_iload hJ dX7_findRound_112 3 rfl ?_
      refine jj_imul hJ dX7_findRound_114 ?_
      refine jj_bipush hJ dX7_findRound_115 bp_10 ?_
      refine jj_isub hJ dX7_findRound_117 ?_
      refine jj_iload hJ dX7_findRound_118 1 rfl ?_
      refine jj_iadd hJ dX7_findRound_120 ?_
      obtain ⟨x4, h5, hF⟩ := ob hF
      refine jj_iald hJ dX7_findRound_121 13 0 rfl rfl h5 ?_
      refine jj_istore hJ dX7_findRound_122 (Nat.le_of_ble_eq_true rfl) (lv' := [(8, .int x4), (7, .int x2), (6, .int v6), (5, .int v5), (4, .int v4), (0, .ref (DA 0)), (1, .int a1), (2, .int a2), (3, .int a3)]) rfl ?_
      refine jj_iload hJ dX7_findRound_124 1 rfl ?_
      obtain ⟨r7, h6, hF⟩ := ob hF
      refine jj_callS0 hJ (c_X7_isWay l D cI cS cII   x2 h6) dX7_findRound_126 kw_187 ⟨Nat.le_of_ble_eq_true rfl, Nat.le_of_ble_eq_true rfl, rfl, rfl⟩ kw_188 kw_189 rfl rfl (Nat.le_of_ble_eq_true rfl) [] rfl rfl ?_
      refine jj_if_eq hJ 179 dX7_findRound_129 rfl (fun c8 => ?_) (fun c8 => ?_)
      · replace hF := ip c8 hF
        refine jj_iinc hJ dX7_findRound_179 2 rfl (v := v6 + 1) (by rw [ic_1]) (Nat.le_of_ble_eq_true rfl) (lv' := [(6, .int (v6 + 1)), (8, .int x4), (7, .int x2), (5, .int v5), (4, .int v4), (0, .ref (DA 0)), (1, .int a1), (2, .int a2), (3, .int a3)]) rfl ?_
        refine jj_goto hJ 82 dX7_findRound_182 rfl ?_
        refine jj_lv hJ [0, 3, 4, 5, 6, 7, 8] (lv' := [(6, .int (v6 + 1)), (5, .int v5), (4, .int v4), (0, .ref (DA 0)), (1, .int a1), (2, .int a2), (3, .int a3)]) rfl ?_
        exact ih (v6 + 1) v5 v4 D_roundMany D_roundOver D_round D_by hF
      · replace hF := iq c8 hF
        refine jj_iload hJ dX7_findRound_132 0 rfl ?_
        obtain ⟨r10, h9, hF⟩ := ob hF
        refine jj_callS0 hJ (c_X7_isWay l D cI cS cII   x4 h9) dX7_findRound_134 kw_187 ⟨Nat.le_of_ble_eq_true rfl, Nat.le_of_ble_eq_true rfl, rfl, rfl⟩ kw_188 kw_189 rfl rfl (Nat.le_of_ble_eq_true rfl) [] rfl rfl ?_
        refine jj_if_eq hJ 179 dX7_findRound_137 rfl (fun c11 => ?_) (fun c11 => ?_)
        · replace hF := ip c11 hF
          refine jj_iinc hJ dX7_findRound_179 2 rfl (v := v6 + 1) (by rw [ic_1]) (Nat.le_of_ble_eq_true rfl) (lv' := [(6, .int (v6 + 1)), (8, .int x4), (7, .int x2), (5, .int v5), (4, .int v4), (0, .ref (DA 0)), (1, .int a1), (2, .int a2), (3, .int a3)]) rfl ?_
          refine jj_goto hJ 82 dX7_findRound_182 rfl ?_
          refine jj_lv hJ [0, 3, 4, 5, 6, 7, 8] (lv' := [(6, .int (v6 + 1)), (5, .int v5), (4, .int v4), (0, .ref (DA 0)), (1, .int a1), (2, .int a2), (3, .int a3)]) rfl ?_
          exact ih (v6 + 1) v5 v4 D_roundMany D_roundOver D_round D_by hF
        · replace hF := iq c11 hF
          refine jj_iload hJ dX7_findRound_140 1 rfl ?_
          refine jj_iload hJ dX7_findRound_142 0 rfl ?_
          refine jj_iadd hJ dX7_findRound_144 ?_
          refine jj_aload_n hJ dX7_findRound_145 5 rfl rfl ?_
          refine jj_get hJ lay_X7 dX7_findRound_146 0 23 rfl rfl (Nat.le_of_ble_eq_true rfl) kw_194 rfl ?_
          refine jj_bipush hJ dX7_findRound_149 bp_10 ?_
          refine jj_iload hJ dX7_findRound_151 4 rfl ?_
          refine jj_imul hJ dX7_findRound_153 ?_
          refine jj_iload hJ dX7_findRound_154 3 rfl ?_
          refine jj_iadd hJ dX7_findRound_156 ?_
          obtain ⟨x12, h13, hF⟩ := ob hF
          refine jj_iald hJ dX7_findRound_157 13 0 rfl rfl h13 ?_
          refine jj_icmp_le hJ 179 dX7_findRound_158 rfl (fun c14 => ?_) (fun c14 => ?_)
          · replace hF := ip c14 hF
            refine jj_iinc hJ dX7_findRound_179 2 rfl (v := v6 + 1) (by rw [ic_1]) (Nat.le_of_ble_eq_true rfl) (lv' := [(6, .int (v6 + 1)), (8, .int x4), (7, .int x2), (5, .int v5), (4, .int v4), (0, .ref (DA 0)), (1, .int a1), (2, .int a2), (3, .int a3)]) rfl ?_
            refine jj_goto hJ 82 dX7_findRound_182 rfl ?_
            refine jj_lv hJ [0, 3, 4, 5, 6, 7, 8] (lv' := [(6, .int (v6 + 1)), (5, .int v5), (4, .int v4), (0, .ref (DA 0)), (1, .int a1), (2, .int a2), (3, .int a3)]) rfl ?_
            exact ih (v6 + 1) v5 v4 D_roundMany D_roundOver D_round D_by hF
          · replace hF := iq c14 hF
            refine jj_aload_n hJ dX7_findRound_161 5 rfl rfl ?_
            refine jj_get hJ lay_X7 dX7_findRound_162 0 23 rfl rfl (Nat.le_of_ble_eq_true rfl) kw_194 rfl ?_
            refine jj_bipush hJ dX7_findRound_165 bp_10 ?_
            refine jj_iload hJ dX7_findRound_167 4 rfl ?_
            refine jj_imul hJ dX7_findRound_169 ?_
            refine jj_iload hJ dX7_findRound_170 3 rfl ?_
            refine jj_iadd hJ dX7_findRound_172 ?_
            refine jj_iload hJ dX7_findRound_173 1 rfl ?_
            refine jj_iload hJ dX7_findRound_175 0 rfl ?_
            refine jj_iadd hJ dX7_findRound_177 ?_
            obtain ⟨g15, h16, hF⟩ := ob hF
            refine jj_iast hJ dX7_findRound_178 13 0 rfl rfl h16 (wn := (W_X7_findRound cI cS cII DA D_length D_text D_levels D_readLevels D_readAsked D_asked D_readKinds D_now D_before D_undoMany D_kept D_keptMany D_refused D_roundMany D_roundOver D_round D_terms D_termLevel D_termAdd D_spot D_number D_reach D_edge g15)) rfl ?_
            refine jj_iinc hJ dX7_findRound_179 2 rfl (v := v6 + 1) (by rw [ic_1]) (Nat.le_of_ble_eq_true rfl) (lv' := [(6, .int (v6 + 1)), (8, .int x4), (7, .int x2), (5, .int v5), (4, .int v4), (0, .ref (DA 0)), (1, .int a1), (2, .int a2), (3, .int a3)]) rfl ?_
            refine jj_goto hJ 82 dX7_findRound_182 rfl ?_
            refine jj_lv hJ [0, 3, 4, 5, 6, 7, 8] (lv' := [(6, .int (v6 + 1)), (5, .int v5), (4, .int v4), (0, .ref (DA 0)), (1, .int a1), (2, .int a2), (3, .int a3)]) rfl ?_
            exact ih (v6 + 1) v5 v4 D_roundMany D_roundOver D_round g15 hF
def q_X7_findRound_191 (D_levels : Int32) (D_reach : Nat → Int32) (D_edge : Nat → Int32) (a1 : Int32) (a2 : Int32) (a3 : Int32) (k38 : Int32 → Int32 → Int32 → (Nat → Int32) → (Nat → Int32) → Option (Int32 × Int32 × (Nat → Int32) × (Nat → Int32))) (v4 : Int32) (D_roundMany : Int32) (D_roundOver : Int32) (D_round : Nat → Int32) (D_by : Nat → Int32) : Option (Int32 × Int32 × (Nat → Int32) × (Nat → Int32)) := k38 v4 D_roundMany D_roundOver D_round D_by
set_option maxRecDepth 100000 in
theorem w_X7_findRound_191 {D_length : Int32} {D_text : Nat → Int32} {D_levels : Int32} {D_readLevels : Int32} {D_readAsked : Int32} {D_asked : Nat → Int32} {D_readKinds : Nat → Int32} {D_now : Nat → Int32} {D_before : Nat → Int32} {D_undoMany : Int32} {D_kept : Nat → Int32} {D_keptMany : Int32} {D_refused : Int32} {D_terms : Int32} {D_termLevel : Nat → Int32} {D_termAdd : Nat → Int32} {D_spot : Int32} {D_number : Nat → Int32} {D_reach : Nat → Int32} {D_edge : Nat → Int32} {a1 : Int32} {a2 : Int32} {a3 : Int32} {k38 : Int32 → Int32 → Int32 → (Nat → Int32) → (Nat → Int32) → Option (Int32 × Int32 × (Nat → Int32) × (Nat → Int32))} (hJ : jJ l cX7_findRound 9 D (tysU cI cS cII) RX7 Rm_X7_findRound none A none (W_X7_findRound cI cS cII DA D_length D_text D_levels D_readLevels D_readAsked D_asked D_readKinds D_now D_before D_undoMany D_kept D_keptMany D_refused z_D_roundMany z_D_roundOver z_D_round D_terms D_termLevel D_termAdd D_spot D_number D_reach D_edge z_D_by) J) (hk38 : ∀ (v4 : Int32) (D_roundMany : Int32) (D_roundOver : Int32) (D_round : Nat → Int32) (D_by : Nat → Int32), k38 v4 D_roundMany D_roundOver D_round D_by = some (z_D_roundMany, z_D_roundOver, z_D_round, z_D_by) → J (W_X7_findRound cI cS cII DA D_length D_text D_levels D_readLevels D_readAsked D_asked D_readKinds D_now D_before D_undoMany D_kept D_keptMany D_refused D_roundMany D_roundOver D_round D_terms D_termLevel D_termAdd D_spot D_number D_reach D_edge D_by) 38 [(4, .int v4), (0, .ref (DA 0)), (1, .int a1), (2, .int a2), (3, .int a3)] []) : ∀ (v4 : Int32) (D_roundMany : Int32) (D_roundOver : Int32) (D_round : Nat → Int32) (D_by : Nat → Int32), q_X7_findRound_191 D_levels D_reach D_edge a1 a2 a3 k38 v4 D_roundMany D_roundOver D_round D_by = some (z_D_roundMany, z_D_roundOver, z_D_round, z_D_by) → J (W_X7_findRound cI cS cII DA D_length D_text D_levels D_readLevels D_readAsked D_asked D_readKinds D_now D_before D_undoMany D_kept D_keptMany D_refused D_roundMany D_roundOver D_round D_terms D_termLevel D_termAdd D_spot D_number D_reach D_edge D_by) 191 [(4, .int v4), (0, .ref (DA 0)), (1, .int a1), (2, .int a2), (3, .int a3)] [] := by
  intro v4 D_roundMany D_roundOver D_round D_by hF
  unfold q_X7_findRound_191 at hF
  refine jj_goto hJ 38 dX7_findRound_191 rfl ?_
  exact hk38 v4 D_roundMany D_roundOver D_round D_by hF
def q_X7_findRound_70 (D_levels : Int32) (D_reach : Nat → Int32) (D_edge : Nat → Int32) (a1 : Int32) (a2 : Int32) (a3 : Int32) (k38 : Int32 → Int32 → Int32 → (Nat → Int32) → (Nat → Int32) → Option (Int32 × Int32 × (Nat → Int32) × (Nat → Int32))) : Nat → Int32 → Int32 → Int32 → Int32 → (Nat → Int32) → (Nat → Int32) → Option (Int32 × Int32 × (Nat → Int32) × (Nat → Int32))
  | 0, _, _, _, _, _, _ => none
  | n + 1, v5, v4, D_roundMany, D_roundOver, D_round, D_by => if D_levels ≤ v5 then (q_X7_findRound_191 D_levels D_reach D_edge a1 a2 a3 k38 v4 D_roundMany D_roundOver D_round D_by) else (q_X7_findRound_82 D_levels D_reach D_edge a1 a2 a3 k38 (q_X7_findRound_70 D_levels D_reach D_edge a1 a2 a3 k38 n) FU 0 v5 v4 D_roundMany D_roundOver D_round D_by)
set_option maxRecDepth 100000 in
theorem w_X7_findRound_70 {D_length : Int32} {D_text : Nat → Int32} {D_levels : Int32} {D_readLevels : Int32} {D_readAsked : Int32} {D_asked : Nat → Int32} {D_readKinds : Nat → Int32} {D_now : Nat → Int32} {D_before : Nat → Int32} {D_undoMany : Int32} {D_kept : Nat → Int32} {D_keptMany : Int32} {D_refused : Int32} {D_terms : Int32} {D_termLevel : Nat → Int32} {D_termAdd : Nat → Int32} {D_spot : Int32} {D_number : Nat → Int32} {D_reach : Nat → Int32} {D_edge : Nat → Int32} {a1 : Int32} {a2 : Int32} {a3 : Int32} {k38 : Int32 → Int32 → Int32 → (Nat → Int32) → (Nat → Int32) → Option (Int32 × Int32 × (Nat → Int32) × (Nat → Int32))} (hJ : jJ l cX7_findRound 9 D (tysU cI cS cII) RX7 Rm_X7_findRound none A none (W_X7_findRound cI cS cII DA D_length D_text D_levels D_readLevels D_readAsked D_asked D_readKinds D_now D_before D_undoMany D_kept D_keptMany D_refused z_D_roundMany z_D_roundOver z_D_round D_terms D_termLevel D_termAdd D_spot D_number D_reach D_edge z_D_by) J) (hk38 : ∀ (v4 : Int32) (D_roundMany : Int32) (D_roundOver : Int32) (D_round : Nat → Int32) (D_by : Nat → Int32), k38 v4 D_roundMany D_roundOver D_round D_by = some (z_D_roundMany, z_D_roundOver, z_D_round, z_D_by) → J (W_X7_findRound cI cS cII DA D_length D_text D_levels D_readLevels D_readAsked D_asked D_readKinds D_now D_before D_undoMany D_kept D_keptMany D_refused D_roundMany D_roundOver D_round D_terms D_termLevel D_termAdd D_spot D_number D_reach D_edge D_by) 38 [(4, .int v4), (0, .ref (DA 0)), (1, .int a1), (2, .int a2), (3, .int a3)] []) : ∀ (n : Nat) (v5 : Int32) (v4 : Int32) (D_roundMany : Int32) (D_roundOver : Int32) (D_round : Nat → Int32) (D_by : Nat → Int32), q_X7_findRound_70 D_levels D_reach D_edge a1 a2 a3 k38 n v5 v4 D_roundMany D_roundOver D_round D_by = some (z_D_roundMany, z_D_roundOver, z_D_round, z_D_by) → J (W_X7_findRound cI cS cII DA D_length D_text D_levels D_readLevels D_readAsked D_asked D_readKinds D_now D_before D_undoMany D_kept D_keptMany D_refused D_roundMany D_roundOver D_round D_terms D_termLevel D_termAdd D_spot D_number D_reach D_edge D_by) 70 [(5, .int v5), (4, .int v4), (0, .ref (DA 0)), (1, .int a1), (2, .int a2), (3, .int a3)] [] := by
  intro n
  induction n with
  | zero =>
    intro v5 v4 D_roundMany D_roundOver D_round D_by hF
    exact no_some (show (none : Option (Int32 × Int32 × (Nat → Int32) × (Nat → Int32))) = some (z_D_roundMany, z_D_roundOver, z_D_round, z_D_by) from hF)
  | succ n ih =>
    intro v5 v4 D_roundMany D_roundOver D_round D_by hF
    rw [q_X7_findRound_70.eq_2] at hF
    refine jj_iload hJ dX7_findRound_70 0 rfl ?_
    refine jj_aload_n hJ dX7_findRound_72 2 rfl rfl ?_
    refine jj_get hJ lay_X7 dX7_findRound_73 0 2 rfl rfl (Nat.le_of_ble_eq_true rfl) kw_186 rfl ?_
    refine jj_icmp_ge hJ 191 dX7_findRound_76 rfl (fun c1 => ?_) (fun c1 => ?_)
    · replace hF := ip c1 hF
      refine jj_lv hJ [1, 2, 3, 4, 5] (lv' := [(4, .int v4), (0, .ref (DA 0)), (1, .int a1), (2, .int a2), (3, .int a3)]) rfl ?_
      exact w_X7_findRound_191 hJ hk38 v4 D_roundMany D_roundOver D_round D_by hF
    · replace hF := iq c1 hF
      refine jj_iconst hJ dX7_findRound_79 ic_0 ?_
      refine jj_istore hJ dX7_findRound_80 (Nat.le_of_ble_eq_true rfl) (lv' := [(6, .int 0), (5, .int v5), (4, .int v4), (0, .ref (DA 0)), (1, .int a1), (2, .int a2), (3, .int a3)]) rfl ?_
      exact w_X7_findRound_82 hJ hk38 (fun v5 v4 D_roundMany D_roundOver D_round D_by => ih v5 v4 D_roundMany D_roundOver D_round D_by) FU 0 v5 v4 D_roundMany D_roundOver D_round D_by hF
def q_X7_findRound_292 (D_levels : Int32) (D_reach : Nat → Int32) (D_edge : Nat → Int32) (a1 : Int32) (a2 : Int32) (a3 : Int32) (k213 : Int32 → Int32 → Int32 → Int32 → (Nat → Int32) → (Nat → Int32) → Option (Int32 × Int32 × (Nat → Int32) × (Nat → Int32))) (v7 : Int32) (v6 : Int32) (D_roundMany : Int32) (D_roundOver : Int32) (D_round : Nat → Int32) (D_by : Nat → Int32) : Option (Int32 × Int32 × (Nat → Int32) × (Nat → Int32)) := (wr D_round 12 D_roundMany v7).bind fun g1 => k213 (v6 + (-1)) v7 (D_roundMany + 1) D_roundOver g1 D_by
set_option maxRecDepth 100000 in
theorem w_X7_findRound_292 {D_length : Int32} {D_text : Nat → Int32} {D_levels : Int32} {D_readLevels : Int32} {D_readAsked : Int32} {D_asked : Nat → Int32} {D_readKinds : Nat → Int32} {D_now : Nat → Int32} {D_before : Nat → Int32} {D_undoMany : Int32} {D_kept : Nat → Int32} {D_keptMany : Int32} {D_refused : Int32} {D_terms : Int32} {D_termLevel : Nat → Int32} {D_termAdd : Nat → Int32} {D_spot : Int32} {D_number : Nat → Int32} {D_reach : Nat → Int32} {D_edge : Nat → Int32} {a1 : Int32} {a2 : Int32} {a3 : Int32} {k213 : Int32 → Int32 → Int32 → Int32 → (Nat → Int32) → (Nat → Int32) → Option (Int32 × Int32 × (Nat → Int32) × (Nat → Int32))} (hJ : jJ l cX7_findRound 9 D (tysU cI cS cII) RX7 Rm_X7_findRound none A none (W_X7_findRound cI cS cII DA D_length D_text D_levels D_readLevels D_readAsked D_asked D_readKinds D_now D_before D_undoMany D_kept D_keptMany D_refused z_D_roundMany z_D_roundOver z_D_round D_terms D_termLevel D_termAdd D_spot D_number D_reach D_edge z_D_by) J) (hk213 : ∀ (v6 : Int32) (v5 : Int32) (D_roundMany : Int32) (D_roundOver : Int32) (D_round : Nat → Int32) (D_by : Nat → Int32), k213 v6 v5 D_roundMany D_roundOver D_round D_by = some (z_D_roundMany, z_D_roundOver, z_D_round, z_D_by) → J (W_X7_findRound cI cS cII DA D_length D_text D_levels D_readLevels D_readAsked D_asked D_readKinds D_now D_before D_undoMany D_kept D_keptMany D_refused D_roundMany D_roundOver D_round D_terms D_termLevel D_termAdd D_spot D_number D_reach D_edge D_by) 213 [(6, .int v6), (5, .int v5), (0, .ref (DA 0)), (1, .int a1), (2, .int a2), (3, .int a3)] []) : ∀ (v7 : Int32) (v6 : Int32) (D_roundMany : Int32) (D_roundOver : Int32) (D_round : Nat → Int32) (D_by : Nat → Int32), q_X7_findRound_292 D_levels D_reach D_edge a1 a2 a3 k213 v7 v6 D_roundMany D_roundOver D_round D_by = some (z_D_roundMany, z_D_roundOver, z_D_round, z_D_by) → J (W_X7_findRound cI cS cII DA D_length D_text D_levels D_readLevels D_readAsked D_asked D_readKinds D_now D_before D_undoMany D_kept D_keptMany D_refused D_roundMany D_roundOver D_round D_terms D_termLevel D_termAdd D_spot D_number D_reach D_edge D_by) 292 [(7, .int v7), (6, .int v6), (0, .ref (DA 0)), (1, .int a1), (2, .int a2), (3, .int a3)] [] := by
  intro v7 v6 D_roundMany D_roundOver D_round D_by hF
  unfold q_X7_findRound_292 at hF
  refine jj_iload hJ dX7_findRound_292 0 rfl ?_
  refine jj_istore hJ dX7_findRound_294 (Nat.le_of_ble_eq_true rfl) (lv' := [(5, .int v7), (7, .int v7), (6, .int v6), (0, .ref (DA 0)), (1, .int a1), (2, .int a2), (3, .int a3)]) rfl ?_
  refine jj_aload_n hJ dX7_findRound_296 3 rfl rfl ?_
  refine jj_get hJ lay_X7 dX7_findRound_297 0 15 rfl rfl (Nat.le_of_ble_eq_true rfl) kw_196 rfl ?_
  refine jj_aload_n hJ dX7_findRound_300 3 rfl rfl ?_
  refine jj_get hJ lay_X7 dX7_findRound_301 0 13 rfl rfl (Nat.le_of_ble_eq_true rfl) kw_195 rfl ?_
  refine jj_iload hJ dX7_findRound_304 0 rfl ?_
  obtain ⟨g1, h2, hF⟩ := ob hF
  refine jj_iast hJ dX7_findRound_306 7 0 rfl rfl h2 (wn := (W_X7_findRound cI cS cII DA D_length D_text D_levels D_readLevels D_readAsked D_asked D_readKinds D_now D_before D_undoMany D_kept D_keptMany D_refused D_roundMany D_roundOver g1 D_terms D_termLevel D_termAdd D_spot D_number D_reach D_edge D_by)) rfl ?_
  refine jj_aload_n hJ dX7_findRound_307 3 rfl rfl ?_
  refine jj_dup hJ dX7_findRound_308 rfl ?_
  refine jj_get hJ lay_X7 dX7_findRound_309 0 13 rfl rfl (Nat.le_of_ble_eq_true rfl) kw_195 rfl ?_
  refine jj_iconst hJ dX7_findRound_312 ic_1 ?_
  refine jj_iadd hJ dX7_findRound_313 ?_
  refine jj_puti hJ lay_X7 tyX7 tyX7_ok nmX7 dX7_findRound_314 0 13 rfl rfl (Nat.le_of_ble_eq_true rfl) kw_195 rfl rfl (Nat.le_of_ble_eq_true rfl) (wn := (W_X7_findRound cI cS cII DA D_length D_text D_levels D_readLevels D_readAsked D_asked D_readKinds D_now D_before D_undoMany D_kept D_keptMany D_refused (D_roundMany + 1) D_roundOver g1 D_terms D_termLevel D_termAdd D_spot D_number D_reach D_edge D_by)) rfl ?_
  refine jj_iinc hJ dX7_findRound_317 2 rfl (v := v6 + (-1)) (by rw [ic_m1]) (Nat.le_of_ble_eq_true rfl) (lv' := [(6, .int (v6 + (-1))), (5, .int v7), (7, .int v7), (0, .ref (DA 0)), (1, .int a1), (2, .int a2), (3, .int a3)]) rfl ?_
  refine jj_goto hJ 213 dX7_findRound_320 rfl ?_
  refine jj_lv hJ [0, 1, 3, 4, 5, 6] (lv' := [(6, .int (v6 + (-1))), (5, .int v7), (0, .ref (DA 0)), (1, .int a1), (2, .int a2), (3, .int a3)]) rfl ?_
  exact hk213 (v6 + (-1)) v7 (D_roundMany + 1) D_roundOver g1 D_by hF
def q_X7_findRound_221 (D_levels : Int32) (D_reach : Nat → Int32) (D_edge : Nat → Int32) (a1 : Int32) (a2 : Int32) (a3 : Int32) (k213 : Int32 → Int32 → Int32 → Int32 → (Nat → Int32) → (Nat → Int32) → Option (Int32 × Int32 × (Nat → Int32) × (Nat → Int32))) : Nat → Int32 → Int32 → Int32 → Int32 → Int32 → (Nat → Int32) → (Nat → Int32) → Option (Int32 × Int32 × (Nat → Int32) × (Nat → Int32))
  | 0, _, _, _, _, _, _, _ => none
  | n + 1, v7, v6, v5, D_roundMany, D_roundOver, D_round, D_by => (rd D_edge 100 ((10 * v5) + v7)).bind fun x1 => (p_X7_isWay x1).bind fun r4 => if r4 = 0 then (q_X7_findRound_221 D_levels D_reach D_edge a1 a2 a3 k213 n (v7 + 1) v6 v5 D_roundMany D_roundOver D_round D_by) else ((rd D_edge 100 ((10 * v5) + v7)).bind fun x6 => (rd D_by 110 (((10 * v6) - 10) + v7)).bind fun x8 => (rd D_by 110 ((10 * v6) + v5)).bind fun x10 => if (x6 + x8) = x10 then (q_X7_findRound_292 D_levels D_reach D_edge a1 a2 a3 k213 v7 v6 D_roundMany D_roundOver D_round D_by) else (q_X7_findRound_221 D_levels D_reach D_edge a1 a2 a3 k213 n (v7 + 1) v6 v5 D_roundMany D_roundOver D_round D_by))
set_option maxRecDepth 100000 in
theorem w_X7_findRound_221 {D_length : Int32} {D_text : Nat → Int32} {D_levels : Int32} {D_readLevels : Int32} {D_readAsked : Int32} {D_asked : Nat → Int32} {D_readKinds : Nat → Int32} {D_now : Nat → Int32} {D_before : Nat → Int32} {D_undoMany : Int32} {D_kept : Nat → Int32} {D_keptMany : Int32} {D_refused : Int32} {D_terms : Int32} {D_termLevel : Nat → Int32} {D_termAdd : Nat → Int32} {D_spot : Int32} {D_number : Nat → Int32} {D_reach : Nat → Int32} {D_edge : Nat → Int32} {a1 : Int32} {a2 : Int32} {a3 : Int32} {k213 : Int32 → Int32 → Int32 → Int32 → (Nat → Int32) → (Nat → Int32) → Option (Int32 × Int32 × (Nat → Int32) × (Nat → Int32))} (hJ : jJ l cX7_findRound 9 D (tysU cI cS cII) RX7 Rm_X7_findRound none A none (W_X7_findRound cI cS cII DA D_length D_text D_levels D_readLevels D_readAsked D_asked D_readKinds D_now D_before D_undoMany D_kept D_keptMany D_refused z_D_roundMany z_D_roundOver z_D_round D_terms D_termLevel D_termAdd D_spot D_number D_reach D_edge z_D_by) J) (hk213 : ∀ (v6 : Int32) (v5 : Int32) (D_roundMany : Int32) (D_roundOver : Int32) (D_round : Nat → Int32) (D_by : Nat → Int32), k213 v6 v5 D_roundMany D_roundOver D_round D_by = some (z_D_roundMany, z_D_roundOver, z_D_round, z_D_by) → J (W_X7_findRound cI cS cII DA D_length D_text D_levels D_readLevels D_readAsked D_asked D_readKinds D_now D_before D_undoMany D_kept D_keptMany D_refused D_roundMany D_roundOver D_round D_terms D_termLevel D_termAdd D_spot D_number D_reach D_edge D_by) 213 [(6, .int v6), (5, .int v5), (0, .ref (DA 0)), (1, .int a1), (2, .int a2), (3, .int a3)] []) : ∀ (n : Nat) (v7 : Int32) (v6 : Int32) (v5 : Int32) (D_roundMany : Int32) (D_roundOver : Int32) (D_round : Nat → Int32) (D_by : Nat → Int32), q_X7_findRound_221 D_levels D_reach D_edge a1 a2 a3 k213 n v7 v6 v5 D_roundMany D_roundOver D_round D_by = some (z_D_roundMany, z_D_roundOver, z_D_round, z_D_by) → J (W_X7_findRound cI cS cII DA D_length D_text D_levels D_readLevels D_readAsked D_asked D_readKinds D_now D_before D_undoMany D_kept D_keptMany D_refused D_roundMany D_roundOver D_round D_terms D_termLevel D_termAdd D_spot D_number D_reach D_edge D_by) 221 [(7, .int v7), (6, .int v6), (5, .int v5), (0, .ref (DA 0)), (1, .int a1), (2, .int a2), (3, .int a3)] [] := by
  intro n
  induction n with
  | zero =>
    intro v7 v6 v5 D_roundMany D_roundOver D_round D_by hF
    exact no_some (show (none : Option (Int32 × Int32 × (Nat → Int32) × (Nat → Int32))) = some (z_D_roundMany, z_D_roundOver, z_D_round, z_D_by) from hF)
  | succ n ih =>
    intro v7 v6 v5 D_roundMany D_roundOver D_round D_by hF
    rw [q_X7_findRound_221.eq_2] at hF
    refine jj_aload_n hJ dX7_findRound_221 3 rfl rfl ?_
    refine jj_get hJ lay_X7 dX7_findRound_222 0 22 rfl rfl (Nat.le_of_ble_eq_true rfl) kw_180 rfl ?_
    refine jj_bipush hJ dX7_findRound_225 bp_10 ?_
    refine jj_iload hJ dX7_findRound_227 2 rfl ?_
    refine jj_imul hJ dX7_findRound_229 ?_
    refine jj_iload hJ dX7_findRound_230 0 rfl ?_
    refine jj_iadd hJ dX7_findRound_232 ?_
    obtain ⟨x1, h2, hF⟩ := ob hF
    refine jj_iald hJ dX7_findRound_233 12 0 rfl rfl h2 ?_
    obtain ⟨r4, h3, hF⟩ := ob hF
    refine jj_callS0 hJ (c_X7_isWay l D cI cS cII   x1 h3) dX7_findRound_234 kw_187 ⟨Nat.le_of_ble_eq_true rfl, Nat.le_of_ble_eq_true rfl, rfl, rfl⟩ kw_188 kw_189 rfl rfl (Nat.le_of_ble_eq_true rfl) [] rfl rfl ?_
    refine jj_if_eq hJ 286 dX7_findRound_237 rfl (fun c5 => ?_) (fun c5 => ?_)
    · replace hF := ip c5 hF
      refine jj_iinc hJ dX7_findRound_286 0 rfl (v := v7 + 1) (by rw [ic_1]) (Nat.le_of_ble_eq_true rfl) (lv' := [(7, .int (v7 + 1)), (6, .int v6), (5, .int v5), (0, .ref (DA 0)), (1, .int a1), (2, .int a2), (3, .int a3)]) rfl ?_
      refine jj_goto hJ 221 dX7_findRound_289 rfl ?_
      exact ih (v7 + 1) v6 v5 D_roundMany D_roundOver D_round D_by hF
    · replace hF := iq c5 hF
      refine jj_aload_n hJ dX7_findRound_240 3 rfl rfl ?_
      refine jj_get hJ lay_X7 dX7_findRound_241 0 22 rfl rfl (Nat.le_of_ble_eq_true rfl) kw_180 rfl ?_
      refine jj_bipush hJ dX7_findRound_244 bp_10 ?_
      refine jj_iload hJ dX7_findRound_246 2 rfl ?_
      refine jj_imul hJ dX7_findRound_248 ?_
      refine jj_iload hJ dX7_findRound_249 0 rfl ?_
      refine jj_iadd hJ dX7_findRound_251 ?_
      obtain ⟨x6, h7, hF⟩ := ob hF
      refine jj_iald hJ dX7_findRound_252 12 0 rfl rfl h7 ?_
      refine jj_aload_n hJ dX7_findRound_253 3 rfl rfl ?_
      refine jj_get hJ lay_X7 dX7_findRound_254 0 23 rfl rfl (Nat.le_of_ble_eq_true rfl) kw_194 rfl ?_
      refine jj_bipush hJ dX7_findRound_257 bp_10 ?_
      refine jj_iload hJ dX7_findRound_259 1 rfl ?_
      refine jj_imul hJ dX7_findRound_261 ?_
      refine jj_bipush hJ dX7_findRound_262 bp_10 ?_
      refine jj_isub hJ dX7_findRound_264 ?_
      refine jj_iload hJ dX7_findRound_265 0 rfl ?_
      refine jj_iadd hJ dX7_findRound_267 ?_
      obtain ⟨x8, h9, hF⟩ := ob hF
      refine jj_iald hJ dX7_findRound_268 13 0 rfl rfl h9 ?_
      refine jj_iadd hJ dX7_findRound_269 ?_
      refine jj_aload_n hJ dX7_findRound_270 3 rfl rfl ?_
      refine jj_get hJ lay_X7 dX7_findRound_271 0 23 rfl rfl (Nat.le_of_ble_eq_true rfl) kw_194 rfl ?_
      refine jj_bipush hJ dX7_findRound_274 bp_10 ?_
      refine jj_iload hJ dX7_findRound_276 1 rfl ?_
      refine jj_imul hJ dX7_findRound_278 ?_
      refine jj_iload hJ dX7_findRound_279 2 rfl ?_
      refine jj_iadd hJ dX7_findRound_281 ?_
      obtain ⟨x10, h11, hF⟩ := ob hF
      refine jj_iald hJ dX7_findRound_282 13 0 rfl rfl h11 ?_
      refine jj_icmp_eq hJ 292 dX7_findRound_283 rfl (fun c12 => ?_) (fun c12 => ?_)
      · replace hF := ip c12 hF
        refine jj_lv hJ [0, 1, 3, 4, 5, 6] (lv' := [(7, .int v7), (6, .int v6), (0, .ref (DA 0)), (1, .int a1), (2, .int a2), (3, .int a3)]) rfl ?_
        exact w_X7_findRound_292 hJ hk213 v7 v6 D_roundMany D_roundOver D_round D_by hF
      · replace hF := iq c12 hF
        refine jj_iinc hJ dX7_findRound_286 0 rfl (v := v7 + 1) (by rw [ic_1]) (Nat.le_of_ble_eq_true rfl) (lv' := [(7, .int (v7 + 1)), (6, .int v6), (5, .int v5), (0, .ref (DA 0)), (1, .int a1), (2, .int a2), (3, .int a3)]) rfl ?_
        refine jj_goto hJ 221 dX7_findRound_289 rfl ?_
        exact ih (v7 + 1) v6 v5 D_roundMany D_roundOver D_round D_by hF
def q_X7_findRound_323 (D_levels : Int32) (D_reach : Nat → Int32) (D_edge : Nat → Int32) (a1 : Int32) (a2 : Int32) (a3 : Int32)  (D_roundMany : Int32) (D_roundOver : Int32) (D_round : Nat → Int32) (D_by : Nat → Int32) : Option (Int32 × Int32 × (Nat → Int32) × (Nat → Int32)) := (rd D_reach 100 ((10 * a1) + a2)).bind fun x1 => some (D_roundMany, x1 + a3, D_round, D_by)
set_option maxRecDepth 100000 in
theorem w_X7_findRound_323 {D_length : Int32} {D_text : Nat → Int32} {D_levels : Int32} {D_readLevels : Int32} {D_readAsked : Int32} {D_asked : Nat → Int32} {D_readKinds : Nat → Int32} {D_now : Nat → Int32} {D_before : Nat → Int32} {D_undoMany : Int32} {D_kept : Nat → Int32} {D_keptMany : Int32} {D_refused : Int32} {D_terms : Int32} {D_termLevel : Nat → Int32} {D_termAdd : Nat → Int32} {D_spot : Int32} {D_number : Nat → Int32} {D_reach : Nat → Int32} {D_edge : Nat → Int32} {a1 : Int32} {a2 : Int32} {a3 : Int32}  (hJ : jJ l cX7_findRound 9 D (tysU cI cS cII) RX7 Rm_X7_findRound none A none (W_X7_findRound cI cS cII DA D_length D_text D_levels D_readLevels D_readAsked D_asked D_readKinds D_now D_before D_undoMany D_kept D_keptMany D_refused z_D_roundMany z_D_roundOver z_D_round D_terms D_termLevel D_termAdd D_spot D_number D_reach D_edge z_D_by) J)  : ∀ (D_roundMany : Int32) (D_roundOver : Int32) (D_round : Nat → Int32) (D_by : Nat → Int32), q_X7_findRound_323 D_levels D_reach D_edge a1 a2 a3 D_roundMany D_roundOver D_round D_by = some (z_D_roundMany, z_D_roundOver, z_D_round, z_D_by) → J (W_X7_findRound cI cS cII DA D_length D_text D_levels D_readLevels D_readAsked D_asked D_readKinds D_now D_before D_undoMany D_kept D_keptMany D_refused D_roundMany D_roundOver D_round D_terms D_termLevel D_termAdd D_spot D_number D_reach D_edge D_by) 323 [(0, .ref (DA 0)), (1, .int a1), (2, .int a2), (3, .int a3)] [] := by
  intro D_roundMany D_roundOver D_round D_by hF
  unfold q_X7_findRound_323 at hF
  refine jj_aload_n hJ dX7_findRound_323 0 rfl rfl ?_
  refine jj_aload_n hJ dX7_findRound_324 0 rfl rfl ?_
  refine jj_get hJ lay_X7 dX7_findRound_325 0 21 rfl rfl (Nat.le_of_ble_eq_true rfl) kw_185 rfl ?_
  refine jj_bipush hJ dX7_findRound_328 bp_10 ?_
  refine jj_iload_n hJ dX7_findRound_330 1 rfl rfl ?_
  refine jj_imul hJ dX7_findRound_331 ?_
  refine jj_iload_n hJ dX7_findRound_332 2 rfl rfl ?_
  refine jj_iadd hJ dX7_findRound_333 ?_
  obtain ⟨x1, h2, hF⟩ := ob hF
  refine jj_iald hJ dX7_findRound_334 11 0 rfl rfl h2 ?_
  refine jj_iload_n hJ dX7_findRound_335 3 rfl rfl ?_
  refine jj_iadd hJ dX7_findRound_336 ?_
  refine jj_puti hJ lay_X7 tyX7 tyX7_ok nmX7 dX7_findRound_337 0 14 rfl rfl (Nat.le_of_ble_eq_true rfl) kw_197 rfl rfl (Nat.le_of_ble_eq_true rfl) (wn := (W_X7_findRound cI cS cII DA D_length D_text D_levels D_readLevels D_readAsked D_asked D_readKinds D_now D_before D_undoMany D_kept D_keptMany D_refused D_roundMany (x1 + a3) D_round D_terms D_termLevel D_termAdd D_spot D_number D_reach D_edge D_by)) rfl ?_
  cases Option.some.inj hF
  exact jj_vret hJ dX7_findRound_340
def q_X7_findRound_213 (D_levels : Int32) (D_reach : Nat → Int32) (D_edge : Nat → Int32) (a1 : Int32) (a2 : Int32) (a3 : Int32)  : Nat → Int32 → Int32 → Int32 → Int32 → (Nat → Int32) → (Nat → Int32) → Option (Int32 × Int32 × (Nat → Int32) × (Nat → Int32))
  | 0, _, _, _, _, _, _ => none
  | n + 1, v6, v5, D_roundMany, D_roundOver, D_round, D_by => if v6 ≤ 0 then (q_X7_findRound_323 D_levels D_reach D_edge a1 a2 a3 D_roundMany D_roundOver D_round D_by) else (q_X7_findRound_221 D_levels D_reach D_edge a1 a2 a3 (q_X7_findRound_213 D_levels D_reach D_edge a1 a2 a3 n) FU 0 v6 v5 D_roundMany D_roundOver D_round D_by)
set_option maxRecDepth 100000 in
theorem w_X7_findRound_213 {D_length : Int32} {D_text : Nat → Int32} {D_levels : Int32} {D_readLevels : Int32} {D_readAsked : Int32} {D_asked : Nat → Int32} {D_readKinds : Nat → Int32} {D_now : Nat → Int32} {D_before : Nat → Int32} {D_undoMany : Int32} {D_kept : Nat → Int32} {D_keptMany : Int32} {D_refused : Int32} {D_terms : Int32} {D_termLevel : Nat → Int32} {D_termAdd : Nat → Int32} {D_spot : Int32} {D_number : Nat → Int32} {D_reach : Nat → Int32} {D_edge : Nat → Int32} {a1 : Int32} {a2 : Int32} {a3 : Int32}  (hJ : jJ l cX7_findRound 9 D (tysU cI cS cII) RX7 Rm_X7_findRound none A none (W_X7_findRound cI cS cII DA D_length D_text D_levels D_readLevels D_readAsked D_asked D_readKinds D_now D_before D_undoMany D_kept D_keptMany D_refused z_D_roundMany z_D_roundOver z_D_round D_terms D_termLevel D_termAdd D_spot D_number D_reach D_edge z_D_by) J)  : ∀ (n : Nat) (v6 : Int32) (v5 : Int32) (D_roundMany : Int32) (D_roundOver : Int32) (D_round : Nat → Int32) (D_by : Nat → Int32), q_X7_findRound_213 D_levels D_reach D_edge a1 a2 a3 n v6 v5 D_roundMany D_roundOver D_round D_by = some (z_D_roundMany, z_D_roundOver, z_D_round, z_D_by) → J (W_X7_findRound cI cS cII DA D_length D_text D_levels D_readLevels D_readAsked D_asked D_readKinds D_now D_before D_undoMany D_kept D_keptMany D_refused D_roundMany D_roundOver D_round D_terms D_termLevel D_termAdd D_spot D_number D_reach D_edge D_by) 213 [(6, .int v6), (5, .int v5), (0, .ref (DA 0)), (1, .int a1), (2, .int a2), (3, .int a3)] [] := by
  intro n
  induction n with
  | zero =>
    intro v6 v5 D_roundMany D_roundOver D_round D_by hF
    exact no_some (show (none : Option (Int32 × Int32 × (Nat → Int32) × (Nat → Int32))) = some (z_D_roundMany, z_D_roundOver, z_D_round, z_D_by) from hF)
  | succ n ih =>
    intro v6 v5 D_roundMany D_roundOver D_round D_by hF
    rw [q_X7_findRound_213.eq_2] at hF
    refine jj_iload hJ dX7_findRound_213 0 rfl ?_
    refine jj_if_le hJ 323 dX7_findRound_215 rfl (fun c1 => ?_) (fun c1 => ?_)
    · replace hF := ip c1 hF
      refine jj_lv hJ [2, 3, 4, 5] (lv' := [(0, .ref (DA 0)), (1, .int a1), (2, .int a2), (3, .int a3)]) rfl ?_
      exact w_X7_findRound_323 hJ  D_roundMany D_roundOver D_round D_by hF
    · replace hF := iq c1 hF
      refine jj_iconst hJ dX7_findRound_218 ic_0 ?_
      refine jj_istore hJ dX7_findRound_219 (Nat.le_of_ble_eq_true rfl) (lv' := [(7, .int 0), (6, .int v6), (5, .int v5), (0, .ref (DA 0)), (1, .int a1), (2, .int a2), (3, .int a3)]) rfl ?_
      exact w_X7_findRound_221 hJ (fun v6 v5 D_roundMany D_roundOver D_round D_by => ih v6 v5 D_roundMany D_roundOver D_round D_by) FU 0 v6 v5 D_roundMany D_roundOver D_round D_by hF
def q_X7_findRound_194 (D_levels : Int32) (D_reach : Nat → Int32) (D_edge : Nat → Int32) (a1 : Int32) (a2 : Int32) (a3 : Int32)  (v4 : Int32) (D_roundMany : Int32) (D_roundOver : Int32) (D_round : Nat → Int32) (D_by : Nat → Int32) : Option (Int32 × Int32 × (Nat → Int32) × (Nat → Int32)) := (wr D_round 12 0 a1).bind fun g1 => q_X7_findRound_213 D_levels D_reach D_edge a1 a2 a3 FU v4 a1 1 D_roundOver g1 D_by
set_option maxRecDepth 100000 in
theorem w_X7_findRound_194 {D_length : Int32} {D_text : Nat → Int32} {D_levels : Int32} {D_readLevels : Int32} {D_readAsked : Int32} {D_asked : Nat → Int32} {D_readKinds : Nat → Int32} {D_now : Nat → Int32} {D_before : Nat → Int32} {D_undoMany : Int32} {D_kept : Nat → Int32} {D_keptMany : Int32} {D_refused : Int32} {D_terms : Int32} {D_termLevel : Nat → Int32} {D_termAdd : Nat → Int32} {D_spot : Int32} {D_number : Nat → Int32} {D_reach : Nat → Int32} {D_edge : Nat → Int32} {a1 : Int32} {a2 : Int32} {a3 : Int32}  (hJ : jJ l cX7_findRound 9 D (tysU cI cS cII) RX7 Rm_X7_findRound none A none (W_X7_findRound cI cS cII DA D_length D_text D_levels D_readLevels D_readAsked D_asked D_readKinds D_now D_before D_undoMany D_kept D_keptMany D_refused z_D_roundMany z_D_roundOver z_D_round D_terms D_termLevel D_termAdd D_spot D_number D_reach D_edge z_D_by) J)  : ∀ (v4 : Int32) (D_roundMany : Int32) (D_roundOver : Int32) (D_round : Nat → Int32) (D_by : Nat → Int32), q_X7_findRound_194 D_levels D_reach D_edge a1 a2 a3 v4 D_roundMany D_roundOver D_round D_by = some (z_D_roundMany, z_D_roundOver, z_D_round, z_D_by) → J (W_X7_findRound cI cS cII DA D_length D_text D_levels D_readLevels D_readAsked D_asked D_readKinds D_now D_before D_undoMany D_kept D_keptMany D_refused D_roundMany D_roundOver D_round D_terms D_termLevel D_termAdd D_spot D_number D_reach D_edge D_by) 194 [(4, .int v4), (0, .ref (DA 0)), (1, .int a1), (2, .int a2), (3, .int a3)] [] := by
  intro v4 D_roundMany D_roundOver D_round D_by hF
  unfold q_X7_findRound_194 at hF
  refine jj_aload_n hJ dX7_findRound_194 1 rfl rfl ?_
  refine jj_iconst hJ dX7_findRound_195 ic_1 ?_
  refine jj_puti hJ lay_X7 tyX7 tyX7_ok nmX7 dX7_findRound_196 0 13 rfl rfl (Nat.le_of_ble_eq_true rfl) kw_195 rfl rfl (Nat.le_of_ble_eq_true rfl) (wn := (W_X7_findRound cI cS cII DA D_length D_text D_levels D_readLevels D_readAsked D_asked D_readKinds D_now D_before D_undoMany D_kept D_keptMany D_refused 1 D_roundOver D_round D_terms D_termLevel D_termAdd D_spot D_number D_reach D_edge D_by)) rfl ?_
  refine jj_aload_n hJ dX7_findRound_199 1 rfl rfl ?_
  refine jj_get hJ lay_X7 dX7_findRound_200 0 15 rfl rfl (Nat.le_of_ble_eq_true rfl) kw_196 rfl ?_
  refine jj_iconst hJ dX7_findRound_203 ic_0 ?_
  refine jj_iload_n hJ dX7_findRound_204 2 rfl rfl ?_
  obtain ⟨g1, h2, hF⟩ := ob hF
  refine jj_iast hJ dX7_findRound_205 7 0 rfl rfl h2 (wn := (W_X7_findRound cI cS cII DA D_length D_text D_levels D_readLevels D_readAsked D_asked D_readKinds D_now D_before D_undoMany D_kept D_keptMany D_refused 1 D_roundOver g1 D_terms D_termLevel D_termAdd D_spot D_number D_reach D_edge D_by)) rfl ?_
  refine jj_iload_n hJ dX7_findRound_206 2 rfl rfl ?_
  refine jj_istore hJ dX7_findRound_207 (Nat.le_of_ble_eq_true rfl) (lv' := [(5, .int a1), (4, .int v4), (0, .ref (DA 0)), (1, .int a1), (2, .int a2), (3, .int a3)]) rfl ?_
  refine jj_iload hJ dX7_findRound_209 1 rfl ?_
  refine jj_istore hJ dX7_findRound_211 (Nat.le_of_ble_eq_true rfl) (lv' := [(6, .int v4), (5, .int a1), (4, .int v4), (0, .ref (DA 0)), (1, .int a1), (2, .int a2), (3, .int a3)]) rfl ?_
  refine jj_lv hJ [0, 1, 3, 4, 5, 6] (lv' := [(6, .int v4), (5, .int a1), (0, .ref (DA 0)), (1, .int a1), (2, .int a2), (3, .int a3)]) rfl ?_
  exact w_X7_findRound_213 hJ  FU v4 a1 1 D_roundOver g1 D_by hF
def q_X7_findRound_38 (D_levels : Int32) (D_reach : Nat → Int32) (D_edge : Nat → Int32) (a1 : Int32) (a2 : Int32) (a3 : Int32)  : Nat → Int32 → Int32 → Int32 → (Nat → Int32) → (Nat → Int32) → Option (Int32 × Int32 × (Nat → Int32) × (Nat → Int32))
  | 0, _, _, _, _, _ => none
  | n + 1, v4, D_roundMany, D_roundOver, D_round, D_by => (rd D_by 110 ((10 * v4) + a1)).bind fun x1 => (rd D_reach 100 ((10 * a1) + a2)).bind fun x3 => if x1 = x3 then (q_X7_findRound_194 D_levels D_reach D_edge a1 a2 a3 v4 D_roundMany D_roundOver D_round D_by) else (q_X7_findRound_70 D_levels D_reach D_edge a1 a2 a3 (q_X7_findRound_38 D_levels D_reach D_edge a1 a2 a3 n) FU 0 (v4 + 1) D_roundMany D_roundOver D_round D_by)
set_option maxRecDepth 100000 in
theorem w_X7_findRound_38 {D_length : Int32} {D_text : Nat → Int32} {D_levels : Int32} {D_readLevels : Int32} {D_readAsked : Int32} {D_asked : Nat → Int32} {D_readKinds : Nat → Int32} {D_now : Nat → Int32} {D_before : Nat → Int32} {D_undoMany : Int32} {D_kept : Nat → Int32} {D_keptMany : Int32} {D_refused : Int32} {D_terms : Int32} {D_termLevel : Nat → Int32} {D_termAdd : Nat → Int32} {D_spot : Int32} {D_number : Nat → Int32} {D_reach : Nat → Int32} {D_edge : Nat → Int32} {a1 : Int32} {a2 : Int32} {a3 : Int32}  (hJ : jJ l cX7_findRound 9 D (tysU cI cS cII) RX7 Rm_X7_findRound none A none (W_X7_findRound cI cS cII DA D_length D_text D_levels D_readLevels D_readAsked D_asked D_readKinds D_now D_before D_undoMany D_kept D_keptMany D_refused z_D_roundMany z_D_roundOver z_D_round D_terms D_termLevel D_termAdd D_spot D_number D_reach D_edge z_D_by) J)  : ∀ (n : Nat) (v4 : Int32) (D_roundMany : Int32) (D_roundOver : Int32) (D_round : Nat → Int32) (D_by : Nat → Int32), q_X7_findRound_38 D_levels D_reach D_edge a1 a2 a3 n v4 D_roundMany D_roundOver D_round D_by = some (z_D_roundMany, z_D_roundOver, z_D_round, z_D_by) → J (W_X7_findRound cI cS cII DA D_length D_text D_levels D_readLevels D_readAsked D_asked D_readKinds D_now D_before D_undoMany D_kept D_keptMany D_refused D_roundMany D_roundOver D_round D_terms D_termLevel D_termAdd D_spot D_number D_reach D_edge D_by) 38 [(4, .int v4), (0, .ref (DA 0)), (1, .int a1), (2, .int a2), (3, .int a3)] [] := by
  intro n
  induction n with
  | zero =>
    intro v4 D_roundMany D_roundOver D_round D_by hF
    exact no_some (show (none : Option (Int32 × Int32 × (Nat → Int32) × (Nat → Int32))) = some (z_D_roundMany, z_D_roundOver, z_D_round, z_D_by) from hF)
  | succ n ih =>
    intro v4 D_roundMany D_roundOver D_round D_by hF
    rw [q_X7_findRound_38.eq_2] at hF
    refine jj_aload_n hJ dX7_findRound_38 1 rfl rfl ?_
    refine jj_get hJ lay_X7 dX7_findRound_39 0 23 rfl rfl (Nat.le_of_ble_eq_true rfl) kw_194 rfl ?_
    refine jj_bipush hJ dX7_findRound_42 bp_10 ?_
    refine jj_iload hJ dX7_findRound_44 0 rfl ?_
    refine jj_imul hJ dX7_findRound_46 ?_
    refine jj_iload_n hJ dX7_findRound_47 2 rfl rfl ?_
    refine jj_iadd hJ dX7_findRound_48 ?_
    obtain ⟨x1, h2, hF⟩ := ob hF
    refine jj_iald hJ dX7_findRound_49 13 0 rfl rfl h2 ?_
    refine jj_aload_n hJ dX7_findRound_50 1 rfl rfl ?_
    refine jj_get hJ lay_X7 dX7_findRound_51 0 21 rfl rfl (Nat.le_of_ble_eq_true rfl) kw_185 rfl ?_
    refine jj_bipush hJ dX7_findRound_54 bp_10 ?_
    refine jj_iload_n hJ dX7_findRound_56 2 rfl rfl ?_
    refine jj_imul hJ dX7_findRound_57 ?_
    refine jj_iload_n hJ dX7_findRound_58 3 rfl rfl ?_
    refine jj_iadd hJ dX7_findRound_59 ?_
    obtain ⟨x3, h4, hF⟩ := ob hF
    refine jj_iald hJ dX7_findRound_60 11 0 rfl rfl h4 ?_
    refine jj_icmp_eq hJ 194 dX7_findRound_61 rfl (fun c5 => ?_) (fun c5 => ?_)
    · replace hF := ip c5 hF
      exact w_X7_findRound_194 hJ  v4 D_roundMany D_roundOver D_round D_by hF
    · replace hF := iq c5 hF
      refine jj_iinc hJ dX7_findRound_64 0 rfl (v := v4 + 1) (by rw [ic_1]) (Nat.le_of_ble_eq_true rfl) (lv' := [(4, .int (v4 + 1)), (0, .ref (DA 0)), (1, .int a1), (2, .int a2), (3, .int a3)]) rfl ?_
      refine jj_iconst hJ dX7_findRound_67 ic_0 ?_
      refine jj_istore hJ dX7_findRound_68 (Nat.le_of_ble_eq_true rfl) (lv' := [(5, .int 0), (4, .int (v4 + 1)), (0, .ref (DA 0)), (1, .int a1), (2, .int a2), (3, .int a3)]) rfl ?_
      exact w_X7_findRound_70 hJ (fun v4 D_roundMany D_roundOver D_round D_by => ih v4 D_roundMany D_roundOver D_round D_by) FU 0 (v4 + 1) D_roundMany D_roundOver D_round D_by hF
def q_X7_findRound_35 (D_levels : Int32) (D_reach : Nat → Int32) (D_edge : Nat → Int32) (a1 : Int32) (a2 : Int32) (a3 : Int32)  (D_roundMany : Int32) (D_roundOver : Int32) (D_round : Nat → Int32) (D_by : Nat → Int32) : Option (Int32 × Int32 × (Nat → Int32) × (Nat → Int32)) := q_X7_findRound_38 D_levels D_reach D_edge a1 a2 a3 FU 0 D_roundMany D_roundOver D_round D_by
set_option maxRecDepth 100000 in
theorem w_X7_findRound_35 {D_length : Int32} {D_text : Nat → Int32} {D_levels : Int32} {D_readLevels : Int32} {D_readAsked : Int32} {D_asked : Nat → Int32} {D_readKinds : Nat → Int32} {D_now : Nat → Int32} {D_before : Nat → Int32} {D_undoMany : Int32} {D_kept : Nat → Int32} {D_keptMany : Int32} {D_refused : Int32} {D_terms : Int32} {D_termLevel : Nat → Int32} {D_termAdd : Nat → Int32} {D_spot : Int32} {D_number : Nat → Int32} {D_reach : Nat → Int32} {D_edge : Nat → Int32} {a1 : Int32} {a2 : Int32} {a3 : Int32}  (hJ : jJ l cX7_findRound 9 D (tysU cI cS cII) RX7 Rm_X7_findRound none A none (W_X7_findRound cI cS cII DA D_length D_text D_levels D_readLevels D_readAsked D_asked D_readKinds D_now D_before D_undoMany D_kept D_keptMany D_refused z_D_roundMany z_D_roundOver z_D_round D_terms D_termLevel D_termAdd D_spot D_number D_reach D_edge z_D_by) J)  : ∀ (D_roundMany : Int32) (D_roundOver : Int32) (D_round : Nat → Int32) (D_by : Nat → Int32), q_X7_findRound_35 D_levels D_reach D_edge a1 a2 a3 D_roundMany D_roundOver D_round D_by = some (z_D_roundMany, z_D_roundOver, z_D_round, z_D_by) → J (W_X7_findRound cI cS cII DA D_length D_text D_levels D_readLevels D_readAsked D_asked D_readKinds D_now D_before D_undoMany D_kept D_keptMany D_refused D_roundMany D_roundOver D_round D_terms D_termLevel D_termAdd D_spot D_number D_reach D_edge D_by) 35 [(0, .ref (DA 0)), (1, .int a1), (2, .int a2), (3, .int a3)] [] := by
  intro D_roundMany D_roundOver D_round D_by hF
  unfold q_X7_findRound_35 at hF
  refine jj_iconst hJ dX7_findRound_35 ic_0 ?_
  refine jj_istore hJ dX7_findRound_36 (Nat.le_of_ble_eq_true rfl) (lv' := [(4, .int 0), (0, .ref (DA 0)), (1, .int a1), (2, .int a2), (3, .int a3)]) rfl ?_
  exact w_X7_findRound_38 hJ  FU 0 D_roundMany D_roundOver D_round D_by hF
def q_X7_findRound_3 (D_levels : Int32) (D_reach : Nat → Int32) (D_edge : Nat → Int32) (a1 : Int32) (a2 : Int32) (a3 : Int32)  : Nat → Int32 → Int32 → Int32 → (Nat → Int32) → (Nat → Int32) → Option (Int32 × Int32 × (Nat → Int32) × (Nat → Int32))
  | 0, _, _, _, _, _ => none
  | n + 1, v4, D_roundMany, D_roundOver, D_round, D_by => if 110 ≤ v4 then (q_X7_findRound_35 D_levels D_reach D_edge a1 a2 a3 D_roundMany D_roundOver D_round D_by) else (if v4 = a2 then ((wr D_by 110 v4 0).bind fun g5 => q_X7_findRound_3 D_levels D_reach D_edge a1 a2 a3 n (v4 + 1) D_roundMany D_roundOver D_round g5) else ((wr D_by 110 v4 ((-100000))).bind fun g3 => q_X7_findRound_3 D_levels D_reach D_edge a1 a2 a3 n (v4 + 1) D_roundMany D_roundOver D_round g3))
set_option maxRecDepth 100000 in
theorem w_X7_findRound_3 {D_length : Int32} {D_text : Nat → Int32} {D_levels : Int32} {D_readLevels : Int32} {D_readAsked : Int32} {D_asked : Nat → Int32} {D_readKinds : Nat → Int32} {D_now : Nat → Int32} {D_before : Nat → Int32} {D_undoMany : Int32} {D_kept : Nat → Int32} {D_keptMany : Int32} {D_refused : Int32} {D_terms : Int32} {D_termLevel : Nat → Int32} {D_termAdd : Nat → Int32} {D_spot : Int32} {D_number : Nat → Int32} {D_reach : Nat → Int32} {D_edge : Nat → Int32} {a1 : Int32} {a2 : Int32} {a3 : Int32}  (hJ : jJ l cX7_findRound 9 D (tysU cI cS cII) RX7 Rm_X7_findRound none A none (W_X7_findRound cI cS cII DA D_length D_text D_levels D_readLevels D_readAsked D_asked D_readKinds D_now D_before D_undoMany D_kept D_keptMany D_refused z_D_roundMany z_D_roundOver z_D_round D_terms D_termLevel D_termAdd D_spot D_number D_reach D_edge z_D_by) J)  : ∀ (n : Nat) (v4 : Int32) (D_roundMany : Int32) (D_roundOver : Int32) (D_round : Nat → Int32) (D_by : Nat → Int32), q_X7_findRound_3 D_levels D_reach D_edge a1 a2 a3 n v4 D_roundMany D_roundOver D_round D_by = some (z_D_roundMany, z_D_roundOver, z_D_round, z_D_by) → J (W_X7_findRound cI cS cII DA D_length D_text D_levels D_readLevels D_readAsked D_asked D_readKinds D_now D_before D_undoMany D_kept D_keptMany D_refused D_roundMany D_roundOver D_round D_terms D_termLevel D_termAdd D_spot D_number D_reach D_edge D_by) 3 [(4, .int v4), (0, .ref (DA 0)), (1, .int a1), (2, .int a2), (3, .int a3)] [] := by
  intro n
  induction n with
  | zero =>
    intro v4 D_roundMany D_roundOver D_round D_by hF
    exact no_some (show (none : Option (Int32 × Int32 × (Nat → Int32) × (Nat → Int32))) = some (z_D_roundMany, z_D_roundOver, z_D_round, z_D_by) from hF)
  | succ n ih =>
    intro v4 D_roundMany D_roundOver D_round D_by hF
    rw [q_X7_findRound_3.eq_2] at hF
    refine jj_iload hJ dX7_findRound_3 0 rfl ?_
    refine jj_bipush hJ dX7_findRound_5 bp_110 ?_
    refine jj_icmp_ge hJ 35 dX7_findRound_7 rfl (fun c1 => ?_) (fun c1 => ?_)
    · replace hF := ip c1 hF
      refine jj_lv hJ [1, 2, 3, 4] (lv' := [(0, .ref (DA 0)), (1, .int a1), (2, .int a2), (3, .int a3)]) rfl ?_
      exact w_X7_findRound_35 hJ  D_roundMany D_roundOver D_round D_by hF
    · replace hF := iq c1 hF
      refine jj_aload_n hJ dX7_findRound_10 1 rfl rfl ?_
      refine jj_get hJ lay_X7 dX7_findRound_11 0 23 rfl rfl (Nat.le_of_ble_eq_true rfl) kw_194 rfl ?_
      refine jj_iload hJ dX7_findRound_14 0 rfl ?_
      refine jj_iload hJ dX7_findRound_16 0 rfl ?_
      refine jj_iload_n hJ dX7_findRound_18 3 rfl rfl ?_
      refine jj_icmp_ne hJ 26 dX7_findRound_19 rfl (fun c2 => ?_) (fun c2 => ?_)
      · replace hF := iq c2 hF
        refine jj_ldc hJ dX7_findRound_26 kw_181 ?_
        obtain ⟨g3, h4, hF⟩ := ob hF
        refine jj_iast hJ dX7_findRound_28 13 0 rfl rfl h4 (wn := (W_X7_findRound cI cS cII DA D_length D_text D_levels D_readLevels D_readAsked D_asked D_readKinds D_now D_before D_undoMany D_kept D_keptMany D_refused D_roundMany D_roundOver D_round D_terms D_termLevel D_termAdd D_spot D_number D_reach D_edge g3)) rfl ?_
        refine jj_iinc hJ dX7_findRound_29 0 rfl (v := v4 + 1) (by rw [ic_1]) (Nat.le_of_ble_eq_true rfl) (lv' := [(4, .int (v4 + 1)), (0, .ref (DA 0)), (1, .int a1), (2, .int a2), (3, .int a3)]) rfl ?_
        refine jj_goto hJ 3 dX7_findRound_32 rfl ?_
        exact ih (v4 + 1) D_roundMany D_roundOver D_round g3 hF
      · replace hF := ip c2 hF
        refine jj_iconst hJ dX7_findRound_22 ic_0 ?_
        refine jj_goto hJ 28 dX7_findRound_23 rfl ?_
        obtain ⟨g5, h6, hF⟩ := ob hF
        refine jj_iast hJ dX7_findRound_28 13 0 rfl rfl h6 (wn := (W_X7_findRound cI cS cII DA D_length D_text D_levels D_readLevels D_readAsked D_asked D_readKinds D_now D_before D_undoMany D_kept D_keptMany D_refused D_roundMany D_roundOver D_round D_terms D_termLevel D_termAdd D_spot D_number D_reach D_edge g5)) rfl ?_
        refine jj_iinc hJ dX7_findRound_29 0 rfl (v := v4 + 1) (by rw [ic_1]) (Nat.le_of_ble_eq_true rfl) (lv' := [(4, .int (v4 + 1)), (0, .ref (DA 0)), (1, .int a1), (2, .int a2), (3, .int a3)]) rfl ?_
        refine jj_goto hJ 3 dX7_findRound_32 rfl ?_
        exact ih (v4 + 1) D_roundMany D_roundOver D_round g5 hF
def p_X7_findRound (D_levels : Int32) (D_roundMany : Int32) (D_roundOver : Int32) (D_round : Nat → Int32) (D_reach : Nat → Int32) (D_edge : Nat → Int32) (D_by : Nat → Int32) (a1 : Int32) (a2 : Int32) (a3 : Int32) : Option (Int32 × Int32 × (Nat → Int32) × (Nat → Int32)) := q_X7_findRound_3 D_levels D_reach D_edge a1 a2 a3 FU 0 D_roundMany D_roundOver D_round D_by
end
set_option maxRecDepth 100000 in
theorem c_X7_findRound (l : Launch) (D : va_G) (cI cS cII : ClassId) (DA : Nat → Nat) (D_length : Int32) (D_text : Nat → Int32) (D_levels : Int32) (D_readLevels : Int32) (D_readAsked : Int32) (D_asked : Nat → Int32) (D_readKinds : Nat → Int32) (D_now : Nat → Int32) (D_before : Nat → Int32) (D_undoMany : Int32) (D_kept : Nat → Int32) (D_keptMany : Int32) (D_refused : Int32) (D_roundMany : Int32) (D_roundOver : Int32) (D_round : Nat → Int32) (D_terms : Int32) (D_termLevel : Nat → Int32) (D_termAdd : Nat → Int32) (D_spot : Int32) (D_number : Nat → Int32) (D_reach : Nat → Int32) (D_edge : Nat → Int32) (D_by : Nat → Int32) (a1 : Int32) (a2 : Int32) (a3 : Int32) {z_D_roundMany : Int32} {z_D_roundOver : Int32} {z_D_round : Nat → Int32} {z_D_by : Nat → Int32} (hF : p_X7_findRound D_levels D_roundMany D_roundOver D_round D_reach D_edge D_by a1 a2 a3 = some (z_D_roundMany, z_D_roundOver, z_D_round, z_D_by)) : MJ l yX7_findRound cX7_findRound 9 none Rm_X7_findRound D (tysU cI cS cII) [.ref (DA 0), .int a1, .int a2, .int a3] (W_X7_findRound cI cS cII DA D_length D_text D_levels D_readLevels D_readAsked D_asked D_readKinds D_now D_before D_undoMany D_kept D_keptMany D_refused D_roundMany D_roundOver D_round D_terms D_termLevel D_termAdd D_spot D_number D_reach D_edge D_by) none (W_X7_findRound cI cS cII DA D_length D_text D_levels D_readLevels D_readAsked D_asked D_readKinds D_now D_before D_undoMany D_kept D_keptMany D_refused z_D_roundMany z_D_roundOver z_D_round D_terms D_termLevel D_termAdd D_spot D_number D_reach D_edge z_D_by) := by
  refine mj_of (own := RX7) (by decide) rfl (Nat.le_of_ble_eq_true rfl) (fun J hJ => ?_)
  show J (W_X7_findRound cI cS cII DA D_length D_text D_levels D_readLevels D_readAsked D_asked D_readKinds D_now D_before D_undoMany D_kept D_keptMany D_refused D_roundMany D_roundOver D_round D_terms D_termLevel D_termAdd D_spot D_number D_reach D_edge D_by) 0 [(0, .ref (DA 0)), (1, .int a1), (2, .int a2), (3, .int a3)] []
  unfold p_X7_findRound at hF
  refine jj_iconst hJ dX7_findRound_0 ic_0 ?_
  refine jj_istore hJ dX7_findRound_1 (Nat.le_of_ble_eq_true rfl) (lv' := [(4, .int 0), (0, .ref (DA 0)), (1, .int a1), (2, .int a2), (3, .int a3)]) rfl ?_
  exact w_X7_findRound_3 hJ  FU 0 D_roundMany D_roundOver D_round D_by hF
section
def W_X7_mayTake (cI cS cII : ClassId) (DA : Nat → Nat) (D_length : Int32) (D_text : Nat → Int32) (D_levels : Int32) (D_readLevels : Int32) (D_readAsked : Int32) (D_asked : Nat → Int32) (D_readKinds : Nat → Int32) (D_now : Nat → Int32) (D_before : Nat → Int32) (D_undoMany : Int32) (D_kept : Nat → Int32) (D_keptMany : Int32) (D_refused : Int32) (D_roundMany : Int32) (D_roundOver : Int32) (D_round : Nat → Int32) (D_terms : Int32) (D_termLevel : Nat → Int32) (D_termAdd : Nat → Int32) (D_spot : Int32) (D_number : Nat → Int32) (D_reach : Nat → Int32) (D_edge : Nat → Int32) (D_by : Nat → Int32) : va_W := [((DA 0), .inr (7, [.int D_length, .ref (DA 1), .int D_levels, .int D_readLevels, .int D_readAsked, .ref (DA 2), .ref (DA 3), .ref (DA 4), .ref (DA 5), .int D_undoMany, .ref (DA 6), .int D_keptMany, .int D_refused, .int D_roundMany, .int D_roundOver, .ref (DA 7), .int D_terms, .ref (DA 8), .ref (DA 9), .int D_spot, .ref (DA 10), .ref (DA 11), .ref (DA 12), .ref (DA 13)])), ((DA 1), .inl (cI, 200, .inl D_text)), ((DA 2), .inl (cI, 160, .inl D_asked)), ((DA 3), .inl (cI, 10, .inl D_readKinds)), ((DA 4), .inl (cI, 59, .inl D_now)), ((DA 5), .inl (cI, 472, .inl D_before)), ((DA 6), .inl (cI, 118, .inl D_kept)), ((DA 7), .inl (cI, 12, .inl D_round)), ((DA 8), .inl (cI, 6, .inl D_termLevel)), ((DA 9), .inl (cI, 6, .inl D_termAdd)), ((DA 10), .inl (cI, 3, .inl D_number)), ((DA 11), .inl (cI, 100, .inl D_reach)), ((DA 12), .inl (cI, 100, .inl D_edge)), ((DA 13), .inl (cI, 110, .inl D_by))]
abbrev Rm_X7_mayTake : Room := { frames := 3, cells := 0, slots := 0, locals := 67 }
variable {l : Launch} {D : va_G} {cI cS cII : ClassId} {DA : Nat → Nat} {A : Nat → Prop} {J : jT}
variable {z_r : Int32} {z_D_refused : Int32} {z_D_roundMany : Int32} {z_D_roundOver : Int32} {z_D_round : Nat → Int32} {z_D_reach : Nat → Int32} {z_D_edge : Nat → Int32} {z_D_by : Nat → Int32}
def p_X7_mayTake (D_levels : Int32) (D_now : Nat → Int32) (D_refused : Int32) (D_roundMany : Int32) (D_roundOver : Int32) (D_round : Nat → Int32) (D_reach : Nat → Int32) (D_edge : Nat → Int32) (D_by : Nat → Int32) (a1 : Int32) (a2 : Int32) (a3 : Int32) : Option (Int32 × Int32 × Int32 × Int32 × (Nat → Int32) × (Nat → Int32) × (Nat → Int32) × (Nat → Int32)) := (p_X7_weightTo D_now a2 a3).bind fun r2 => (p_X7_find D_levels D_now D_reach D_edge).bind fun (g4, g5) => (rd g4 100 ((10 * a3) + a1)).bind fun x6 => (p_X7_clashes x6 r2).bind fun r9 => if r9 = 0 then (some (1, D_refused, D_roundMany, D_roundOver, D_round, g4, g5, D_by)) else ((p_X7_findRound D_levels D_roundMany D_roundOver D_round g4 g5 D_by a3 a1 r2).bind fun (g12, g13, g14, g15) => some (0, D_refused + 1, g12, g13, g14, g4, g5, g15))
end
set_option maxRecDepth 100000 in
theorem c_X7_mayTake (l : Launch) (D : va_G) (cI cS cII : ClassId) (DA : Nat → Nat) (D_length : Int32) (D_text : Nat → Int32) (D_levels : Int32) (D_readLevels : Int32) (D_readAsked : Int32) (D_asked : Nat → Int32) (D_readKinds : Nat → Int32) (D_now : Nat → Int32) (D_before : Nat → Int32) (D_undoMany : Int32) (D_kept : Nat → Int32) (D_keptMany : Int32) (D_refused : Int32) (D_roundMany : Int32) (D_roundOver : Int32) (D_round : Nat → Int32) (D_terms : Int32) (D_termLevel : Nat → Int32) (D_termAdd : Nat → Int32) (D_spot : Int32) (D_number : Nat → Int32) (D_reach : Nat → Int32) (D_edge : Nat → Int32) (D_by : Nat → Int32) (a1 : Int32) (a2 : Int32) (a3 : Int32) {z_r : Int32} {z_D_refused : Int32} {z_D_roundMany : Int32} {z_D_roundOver : Int32} {z_D_round : Nat → Int32} {z_D_reach : Nat → Int32} {z_D_edge : Nat → Int32} {z_D_by : Nat → Int32} (hF : p_X7_mayTake D_levels D_now D_refused D_roundMany D_roundOver D_round D_reach D_edge D_by a1 a2 a3 = some (z_r, z_D_refused, z_D_roundMany, z_D_roundOver, z_D_round, z_D_reach, z_D_edge, z_D_by)) : MJ l yX7_mayTake cX7_mayTake 5 (some .boolean) Rm_X7_mayTake D (tysU cI cS cII) [.ref (DA 0), .int a1, .int a2, .int a3] (W_X7_mayTake cI cS cII DA D_length D_text D_levels D_readLevels D_readAsked D_asked D_readKinds D_now D_before D_undoMany D_kept D_keptMany D_refused D_roundMany D_roundOver D_round D_terms D_termLevel D_termAdd D_spot D_number D_reach D_edge D_by) (some z_r) (W_X7_mayTake cI cS cII DA D_length D_text D_levels D_readLevels D_readAsked D_asked D_readKinds D_now D_before D_undoMany D_kept D_keptMany z_D_refused z_D_roundMany z_D_roundOver z_D_round D_terms D_termLevel D_termAdd D_spot D_number z_D_reach z_D_edge z_D_by) := by
  refine mj_of (own := RX7) (by decide) rfl (Nat.le_of_ble_eq_true rfl) (fun J hJ => ?_)
  show J (W_X7_mayTake cI cS cII DA D_length D_text D_levels D_readLevels D_readAsked D_asked D_readKinds D_now D_before D_undoMany D_kept D_keptMany D_refused D_roundMany D_roundOver D_round D_terms D_termLevel D_termAdd D_spot D_number D_reach D_edge D_by) 0 [(0, .ref (DA 0)), (1, .int a1), (2, .int a2), (3, .int a3)] []
  unfold p_X7_mayTake at hF
  refine jj_aload_n hJ dX7_mayTake_0 0 rfl rfl ?_
  refine jj_iload_n hJ dX7_mayTake_1 2 rfl rfl ?_
  refine jj_iload_n hJ dX7_mayTake_2 3 rfl rfl ?_
  obtain ⟨r2, h1, hF⟩ := ob hF
  refine jj_callV0 hJ (c_X7_weightTo l D cI cS cII DA D_length D_text D_levels D_readLevels D_readAsked D_asked D_readKinds D_now D_before D_undoMany D_kept D_keptMany D_refused D_roundMany D_roundOver D_round D_terms D_termLevel D_termAdd D_spot D_number D_reach D_edge D_by a2 a3 h1) dX7_mayTake_3 kw_199 ⟨Nat.le_of_ble_eq_true rfl, Nat.le_of_ble_eq_true rfl, rfl, rfl⟩ kw_198 kw_200 kw_201 0 rfl rfl rfl rfl (Nat.le_of_ble_eq_true rfl) [0, 1, 2, 3, 4, 5, 6, 7, 8, 9, 10, 11, 12, 13] rfl rfl ?_
  refine jj_istore hJ dX7_mayTake_6 (Nat.le_of_ble_eq_true rfl) (lv' := [(4, .int r2), (0, .ref (DA 0)), (1, .int a1), (2, .int a2), (3, .int a3)]) rfl ?_
  refine jj_aload_n hJ dX7_mayTake_8 1 rfl rfl ?_
  obtain ⟨⟨g4, g5⟩, h3, hF⟩ := ob hF
  refine jj_callV hJ (c_X7_find l D cI cS cII DA D_length D_text D_levels D_readLevels D_readAsked D_asked D_readKinds D_now D_before D_undoMany D_kept D_keptMany D_refused D_roundMany D_roundOver D_round D_terms D_termLevel D_termAdd D_spot D_number D_reach D_edge D_by  h3) dX7_mayTake_9 kw_203 ⟨Nat.le_of_ble_eq_true rfl, Nat.le_of_ble_eq_true rfl, rfl, rfl⟩ kw_202 kw_204 kw_205 0 rfl rfl rfl rfl (Nat.le_of_ble_eq_true rfl) [0, 1, 2, 3, 4, 5, 6, 7, 8, 9, 10, 11, 12, 13] rfl rfl (wn := (W_X7_mayTake cI cS cII DA D_length D_text D_levels D_readLevels D_readAsked D_asked D_readKinds D_now D_before D_undoMany D_kept D_keptMany D_refused D_roundMany D_roundOver D_round D_terms D_termLevel D_termAdd D_spot D_number g4 g5 D_by)) (jNew_sel rfl [some 0, some 1, some 2, some 3, some 4, some 5, some 6, some 7, some 8, some 9, some 10, some 11, some 12, some 13] (by decide +kernel) rfl) ?_
  refine jj_aload_n hJ dX7_mayTake_12 1 rfl rfl ?_
  refine jj_get hJ lay_X7 dX7_mayTake_13 0 21 rfl rfl (Nat.le_of_ble_eq_true rfl) kw_185 rfl ?_
  refine jj_bipush hJ dX7_mayTake_16 bp_10 ?_
  refine jj_iload_n hJ dX7_mayTake_18 4 rfl rfl ?_
  refine jj_imul hJ dX7_mayTake_19 ?_
  refine jj_iload_n hJ dX7_mayTake_20 2 rfl rfl ?_
  refine jj_iadd hJ dX7_mayTake_21 ?_
  obtain ⟨x6, h7, hF⟩ := ob hF
  refine jj_iald hJ dX7_mayTake_22 11 0 rfl rfl h7 ?_
  refine jj_iload hJ dX7_mayTake_23 0 rfl ?_
  obtain ⟨r9, h8, hF⟩ := ob hF
  refine jj_callS0 hJ (c_X7_clashes l D cI cS cII   x6 r2 h8) dX7_mayTake_25 kw_206 ⟨Nat.le_of_ble_eq_true rfl, Nat.le_of_ble_eq_true rfl, rfl, rfl⟩ kw_207 kw_208 rfl rfl (Nat.le_of_ble_eq_true rfl) [] rfl rfl ?_
  refine jj_if_ne hJ 33 dX7_mayTake_28 rfl (fun c10 => ?_) (fun c10 => ?_)
  · replace hF := iq c10 hF
    refine jj_aload_n hJ dX7_mayTake_33 1 rfl rfl ?_
    refine jj_dup hJ dX7_mayTake_34 rfl ?_
    refine jj_get hJ lay_X7 dX7_mayTake_35 0 12 rfl rfl (Nat.le_of_ble_eq_true rfl) kw_209 rfl ?_
    refine jj_iconst hJ dX7_mayTake_38 ic_1 ?_
    refine jj_iadd hJ dX7_mayTake_39 ?_
    refine jj_puti hJ lay_X7 tyX7 tyX7_ok nmX7 dX7_mayTake_40 0 12 rfl rfl (Nat.le_of_ble_eq_true rfl) kw_209 rfl rfl (Nat.le_of_ble_eq_true rfl) (wn := (W_X7_mayTake cI cS cII DA D_length D_text D_levels D_readLevels D_readAsked D_asked D_readKinds D_now D_before D_undoMany D_kept D_keptMany (D_refused + 1) D_roundMany D_roundOver D_round D_terms D_termLevel D_termAdd D_spot D_number g4 g5 D_by)) rfl ?_
    refine jj_aload_n hJ dX7_mayTake_43 1 rfl rfl ?_
    refine jj_iload_n hJ dX7_mayTake_44 4 rfl rfl ?_
    refine jj_iload_n hJ dX7_mayTake_45 2 rfl rfl ?_
    refine jj_iload hJ dX7_mayTake_46 0 rfl ?_
    obtain ⟨⟨g12, g13, g14, g15⟩, h11, hF⟩ := ob hF
    refine jj_callV hJ (c_X7_findRound l D cI cS cII DA D_length D_text D_levels D_readLevels D_readAsked D_asked D_readKinds D_now D_before D_undoMany D_kept D_keptMany (D_refused + 1) D_roundMany D_roundOver D_round D_terms D_termLevel D_termAdd D_spot D_number g4 g5 D_by a3 a1 r2 h11) dX7_mayTake_48 kw_211 ⟨Nat.le_of_ble_eq_true rfl, Nat.le_of_ble_eq_true rfl, rfl, rfl⟩ kw_210 kw_212 kw_213 0 rfl rfl rfl rfl (Nat.le_of_ble_eq_true rfl) [0, 1, 2, 3, 4, 5, 6, 7, 8, 9, 10, 11, 12, 13] rfl rfl (wn := (W_X7_mayTake cI cS cII DA D_length D_text D_levels D_readLevels D_readAsked D_asked D_readKinds D_now D_before D_undoMany D_kept D_keptMany (D_refused + 1) g12 g13 g14 D_terms D_termLevel D_termAdd D_spot D_number g4 g5 g15)) (jNew_sel rfl [some 0, some 1, some 2, some 3, some 4, some 5, some 6, some 7, some 8, some 9, some 10, some 11, some 12, some 13] (by decide +kernel) rfl) ?_
    refine jj_iconst hJ dX7_mayTake_51 ic_0 ?_
    cases Option.some.inj hF
    exact jj_zret hJ (Or.inl rfl) dX7_mayTake_52
  · replace hF := ip c10 hF
    refine jj_iconst hJ dX7_mayTake_31 ic_1 ?_
    cases Option.some.inj hF
    exact jj_zret hJ (Or.inr rfl) dX7_mayTake_32
section
def W_X7_takeBound (cI cS cII : ClassId) (DA : Nat → Nat) (D_length : Int32) (D_text : Nat → Int32) (D_levels : Int32) (D_readLevels : Int32) (D_readAsked : Int32) (D_asked : Nat → Int32) (D_readKinds : Nat → Int32) (D_now : Nat → Int32) (D_before : Nat → Int32) (D_undoMany : Int32) (D_kept : Nat → Int32) (D_keptMany : Int32) (D_refused : Int32) (D_roundMany : Int32) (D_roundOver : Int32) (D_round : Nat → Int32) (D_terms : Int32) (D_termLevel : Nat → Int32) (D_termAdd : Nat → Int32) (D_spot : Int32) (D_number : Nat → Int32) (D_reach : Nat → Int32) (D_edge : Nat → Int32) (D_by : Nat → Int32) : va_W := [((DA 0), .inr (7, [.int D_length, .ref (DA 1), .int D_levels, .int D_readLevels, .int D_readAsked, .ref (DA 2), .ref (DA 3), .ref (DA 4), .ref (DA 5), .int D_undoMany, .ref (DA 6), .int D_keptMany, .int D_refused, .int D_roundMany, .int D_roundOver, .ref (DA 7), .int D_terms, .ref (DA 8), .ref (DA 9), .int D_spot, .ref (DA 10), .ref (DA 11), .ref (DA 12), .ref (DA 13)])), ((DA 1), .inl (cI, 200, .inl D_text)), ((DA 2), .inl (cI, 160, .inl D_asked)), ((DA 3), .inl (cI, 10, .inl D_readKinds)), ((DA 4), .inl (cI, 59, .inl D_now)), ((DA 5), .inl (cI, 472, .inl D_before)), ((DA 6), .inl (cI, 118, .inl D_kept)), ((DA 7), .inl (cI, 12, .inl D_round)), ((DA 8), .inl (cI, 6, .inl D_termLevel)), ((DA 9), .inl (cI, 6, .inl D_termAdd)), ((DA 10), .inl (cI, 3, .inl D_number)), ((DA 11), .inl (cI, 100, .inl D_reach)), ((DA 12), .inl (cI, 100, .inl D_edge)), ((DA 13), .inl (cI, 110, .inl D_by))]
abbrev Rm_X7_takeBound : Room := { frames := 1, cells := 0, slots := 0, locals := 22 }
variable {l : Launch} {D : va_G} {cI cS cII : ClassId} {DA : Nat → Nat} {A : Nat → Prop} {J : jT}
variable {z_D_now : Nat → Int32}
def p_X7_takeBound (D_now : Nat → Int32) (a1 : Int32) (a2 : Int32) (a3 : Int32) : Option (Nat → Int32) := (rd D_now 59 10).bind fun x1 => (wr D_now 59 (11 + x1) a1).bind fun g3 => (wr g3 59 (27 + x1) a3).bind fun g5 => (p_X7_weightTo g5 a2 a3).bind fun r8 => (wr g5 59 (43 + x1) r8).bind fun g9 => (rd g9 59 10).bind fun x11 => (wr g9 59 10 (x11 + 1)).bind fun g13 => some g13
end
set_option maxRecDepth 100000 in
theorem c_X7_takeBound (l : Launch) (D : va_G) (cI cS cII : ClassId) (DA : Nat → Nat) (D_length : Int32) (D_text : Nat → Int32) (D_levels : Int32) (D_readLevels : Int32) (D_readAsked : Int32) (D_asked : Nat → Int32) (D_readKinds : Nat → Int32) (D_now : Nat → Int32) (D_before : Nat → Int32) (D_undoMany : Int32) (D_kept : Nat → Int32) (D_keptMany : Int32) (D_refused : Int32) (D_roundMany : Int32) (D_roundOver : Int32) (D_round : Nat → Int32) (D_terms : Int32) (D_termLevel : Nat → Int32) (D_termAdd : Nat → Int32) (D_spot : Int32) (D_number : Nat → Int32) (D_reach : Nat → Int32) (D_edge : Nat → Int32) (D_by : Nat → Int32) (a1 : Int32) (a2 : Int32) (a3 : Int32) {z_D_now : Nat → Int32} (hF : p_X7_takeBound D_now a1 a2 a3 = some z_D_now) : MJ l yX7_takeBound cX7_takeBound 5 none Rm_X7_takeBound D (tysU cI cS cII) [.ref (DA 0), .int a1, .int a2, .int a3] (W_X7_takeBound cI cS cII DA D_length D_text D_levels D_readLevels D_readAsked D_asked D_readKinds D_now D_before D_undoMany D_kept D_keptMany D_refused D_roundMany D_roundOver D_round D_terms D_termLevel D_termAdd D_spot D_number D_reach D_edge D_by) none (W_X7_takeBound cI cS cII DA D_length D_text D_levels D_readLevels D_readAsked D_asked D_readKinds z_D_now D_before D_undoMany D_kept D_keptMany D_refused D_roundMany D_roundOver D_round D_terms D_termLevel D_termAdd D_spot D_number D_reach D_edge D_by) := by
  refine mj_of (own := RX7) (by decide) rfl (Nat.le_of_ble_eq_true rfl) (fun J hJ => ?_)
  show J (W_X7_takeBound cI cS cII DA D_length D_text D_levels D_readLevels D_readAsked D_asked D_readKinds D_now D_before D_undoMany D_kept D_keptMany D_refused D_roundMany D_roundOver D_round D_terms D_termLevel D_termAdd D_spot D_number D_reach D_edge D_by) 0 [(0, .ref (DA 0)), (1, .int a1), (2, .int a2), (3, .int a3)] []
  unfold p_X7_takeBound at hF
  refine jj_aload_n hJ dX7_takeBound_0 0 rfl rfl ?_
  refine jj_get hJ lay_X7 dX7_takeBound_1 0 7 rfl rfl (Nat.le_of_ble_eq_true rfl) kw_178 rfl ?_
  refine jj_bipush hJ dX7_takeBound_4 bp_10 ?_
  obtain ⟨x1, h2, hF⟩ := ob hF
  refine jj_iald hJ dX7_takeBound_6 4 0 rfl rfl h2 ?_
  refine jj_istore hJ dX7_takeBound_7 (Nat.le_of_ble_eq_true rfl) (lv' := [(4, .int x1), (0, .ref (DA 0)), (1, .int a1), (2, .int a2), (3, .int a3)]) rfl ?_
  refine jj_aload_n hJ dX7_takeBound_9 1 rfl rfl ?_
  refine jj_get hJ lay_X7 dX7_takeBound_10 0 7 rfl rfl (Nat.le_of_ble_eq_true rfl) kw_178 rfl ?_
  refine jj_bipush hJ dX7_takeBound_13 bp_11 ?_
  refine jj_iload hJ dX7_takeBound_15 0 rfl ?_
  refine jj_iadd hJ dX7_takeBound_17 ?_
  refine jj_iload_n hJ dX7_takeBound_18 2 rfl rfl ?_
  obtain ⟨g3, h4, hF⟩ := ob hF
  refine jj_iast hJ dX7_takeBound_19 4 0 rfl rfl h4 (wn := (W_X7_takeBound cI cS cII DA D_length D_text D_levels D_readLevels D_readAsked D_asked D_readKinds g3 D_before D_undoMany D_kept D_keptMany D_refused D_roundMany D_roundOver D_round D_terms D_termLevel D_termAdd D_spot D_number D_reach D_edge D_by)) rfl ?_
  refine jj_aload_n hJ dX7_takeBound_20 1 rfl rfl ?_
  refine jj_get hJ lay_X7 dX7_takeBound_21 0 7 rfl rfl (Nat.le_of_ble_eq_true rfl) kw_178 rfl ?_
  refine jj_bipush hJ dX7_takeBound_24 bp_27 ?_
  refine jj_iload hJ dX7_takeBound_26 0 rfl ?_
  refine jj_iadd hJ dX7_takeBound_28 ?_
  refine jj_iload_n hJ dX7_takeBound_29 4 rfl rfl ?_
  obtain ⟨g5, h6, hF⟩ := ob hF
  refine jj_iast hJ dX7_takeBound_30 4 0 rfl rfl h6 (wn := (W_X7_takeBound cI cS cII DA D_length D_text D_levels D_readLevels D_readAsked D_asked D_readKinds g5 D_before D_undoMany D_kept D_keptMany D_refused D_roundMany D_roundOver D_round D_terms D_termLevel D_termAdd D_spot D_number D_reach D_edge D_by)) rfl ?_
  refine jj_aload_n hJ dX7_takeBound_31 1 rfl rfl ?_
  refine jj_get hJ lay_X7 dX7_takeBound_32 0 7 rfl rfl (Nat.le_of_ble_eq_true rfl) kw_178 rfl ?_
  refine jj_bipush hJ dX7_takeBound_35 bp_43 ?_
  refine jj_iload hJ dX7_takeBound_37 0 rfl ?_
  refine jj_iadd hJ dX7_takeBound_39 ?_
  refine jj_aload_n hJ dX7_takeBound_40 1 rfl rfl ?_
  refine jj_iload_n hJ dX7_takeBound_41 3 rfl rfl ?_
  refine jj_iload_n hJ dX7_takeBound_42 4 rfl rfl ?_
  obtain ⟨r8, h7, hF⟩ := ob hF
  refine jj_callV0 hJ (c_X7_weightTo l D cI cS cII DA D_length D_text D_levels D_readLevels D_readAsked D_asked D_readKinds g5 D_before D_undoMany D_kept D_keptMany D_refused D_roundMany D_roundOver D_round D_terms D_termLevel D_termAdd D_spot D_number D_reach D_edge D_by a2 a3 h7) dX7_takeBound_43 kw_199 ⟨Nat.le_of_ble_eq_true rfl, Nat.le_of_ble_eq_true rfl, rfl, rfl⟩ kw_198 kw_200 kw_201 0 rfl rfl rfl rfl (Nat.le_of_ble_eq_true rfl) [0, 1, 2, 3, 4, 5, 6, 7, 8, 9, 10, 11, 12, 13] rfl rfl ?_
  obtain ⟨g9, h10, hF⟩ := ob hF
  refine jj_iast hJ dX7_takeBound_46 4 0 rfl rfl h10 (wn := (W_X7_takeBound cI cS cII DA D_length D_text D_levels D_readLevels D_readAsked D_asked D_readKinds g9 D_before D_undoMany D_kept D_keptMany D_refused D_roundMany D_roundOver D_round D_terms D_termLevel D_termAdd D_spot D_number D_reach D_edge D_by)) rfl ?_
  refine jj_aload_n hJ dX7_takeBound_47 1 rfl rfl ?_
  refine jj_get hJ lay_X7 dX7_takeBound_48 0 7 rfl rfl (Nat.le_of_ble_eq_true rfl) kw_178 rfl ?_
  refine jj_bipush hJ dX7_takeBound_51 bp_10 ?_
  refine jj_dup2 hJ dX7_takeBound_53 rfl rfl ?_
  obtain ⟨x11, h12, hF⟩ := ob hF
  refine jj_iald hJ dX7_takeBound_54 4 0 rfl rfl h12 ?_
  refine jj_iconst hJ dX7_takeBound_55 ic_1 ?_
  refine jj_iadd hJ dX7_takeBound_56 ?_
  obtain ⟨g13, h14, hF⟩ := ob hF
  refine jj_iast hJ dX7_takeBound_57 4 0 rfl rfl h14 (wn := (W_X7_takeBound cI cS cII DA D_length D_text D_levels D_readLevels D_readAsked D_asked D_readKinds g13 D_before D_undoMany D_kept D_keptMany D_refused D_roundMany D_roundOver D_round D_terms D_termLevel D_termAdd D_spot D_number D_reach D_edge D_by)) rfl ?_
  cases Option.some.inj hF
  exact jj_vret hJ dX7_takeBound_58
section
def W_X7_begin (cI cS cII : ClassId) (DA : Nat → Nat) (D_length : Int32) (D_text : Nat → Int32) (D_levels : Int32) (D_readLevels : Int32) (D_readAsked : Int32) (D_asked : Nat → Int32) (D_readKinds : Nat → Int32) (D_now : Nat → Int32) (D_before : Nat → Int32) (D_undoMany : Int32) (D_kept : Nat → Int32) (D_keptMany : Int32) (D_refused : Int32) (D_roundMany : Int32) (D_roundOver : Int32) (D_round : Nat → Int32) (D_terms : Int32) (D_termLevel : Nat → Int32) (D_termAdd : Nat → Int32) (D_spot : Int32) (D_number : Nat → Int32) (D_reach : Nat → Int32) (D_edge : Nat → Int32) (D_by : Nat → Int32) : va_W := [((DA 0), .inr (7, [.int D_length, .ref (DA 1), .int D_levels, .int D_readLevels, .int D_readAsked, .ref (DA 2), .ref (DA 3), .ref (DA 4), .ref (DA 5), .int D_undoMany, .ref (DA 6), .int D_keptMany, .int D_refused, .int D_roundMany, .int D_roundOver, .ref (DA 7), .int D_terms, .ref (DA 8), .ref (DA 9), .int D_spot, .ref (DA 10), .ref (DA 11), .ref (DA 12), .ref (DA 13)])), ((DA 1), .inl (cI, 200, .inl D_text)), ((DA 2), .inl (cI, 160, .inl D_asked)), ((DA 3), .inl (cI, 10, .inl D_readKinds)), ((DA 4), .inl (cI, 59, .inl D_now)), ((DA 5), .inl (cI, 472, .inl D_before)), ((DA 6), .inl (cI, 118, .inl D_kept)), ((DA 7), .inl (cI, 12, .inl D_round)), ((DA 8), .inl (cI, 6, .inl D_termLevel)), ((DA 9), .inl (cI, 6, .inl D_termAdd)), ((DA 10), .inl (cI, 3, .inl D_number)), ((DA 11), .inl (cI, 100, .inl D_reach)), ((DA 12), .inl (cI, 100, .inl D_edge)), ((DA 13), .inl (cI, 110, .inl D_by))]
abbrev Rm_X7_begin : Room := { frames := 4, cells := 0, slots := 0, locals := 91 }
variable {l : Launch} {D : va_G} {cI cS cII : ClassId} {DA : Nat → Nat} {A : Nat → Prop} {J : jT}
variable {z_D_levels : Int32} {z_D_now : Nat → Int32} {z_D_undoMany : Int32} {z_D_keptMany : Int32} {z_D_refused : Int32} {z_D_roundMany : Int32} {z_D_roundOver : Int32} {z_D_round : Nat → Int32} {z_D_terms : Int32} {z_D_reach : Nat → Int32} {z_D_edge : Nat → Int32} {z_D_by : Nat → Int32}
def q_X7_begin_151 (D_readLevels : Int32) (D_readAsked : Int32) (D_asked : Nat → Int32) (D_readKinds : Nat → Int32)  (D_levels : Int32) (D_now : Nat → Int32) (D_undoMany : Int32) (D_keptMany : Int32) (D_refused : Int32) (D_roundMany : Int32) (D_roundOver : Int32) (D_round : Nat → Int32) (D_terms : Int32) (D_reach : Nat → Int32) (D_edge : Nat → Int32) (D_by : Nat → Int32) : Option (Int32 × (Nat → Int32) × Int32 × Int32 × Int32 × Int32 × Int32 × (Nat → Int32) × Int32 × (Nat → Int32) × (Nat → Int32) × (Nat → Int32)) := some (D_levels, D_now, 0, 0, D_refused, D_roundMany, D_roundOver, D_round, 0, D_reach, D_edge, D_by)
set_option maxRecDepth 100000 in
theorem w_X7_begin_151 {D_length : Int32} {D_text : Nat → Int32} {D_readLevels : Int32} {D_readAsked : Int32} {D_asked : Nat → Int32} {D_readKinds : Nat → Int32} {D_before : Nat → Int32} {D_kept : Nat → Int32} {D_termLevel : Nat → Int32} {D_termAdd : Nat → Int32} {D_spot : Int32} {D_number : Nat → Int32}   (hJ : jJ l cX7_begin 2 D (tysU cI cS cII) RX7 Rm_X7_begin none A none (W_X7_begin cI cS cII DA D_length D_text z_D_levels D_readLevels D_readAsked D_asked D_readKinds z_D_now D_before z_D_undoMany D_kept z_D_keptMany z_D_refused z_D_roundMany z_D_roundOver z_D_round z_D_terms D_termLevel D_termAdd D_spot D_number z_D_reach z_D_edge z_D_by) J)  : ∀ (D_levels : Int32) (D_now : Nat → Int32) (D_undoMany : Int32) (D_keptMany : Int32) (D_refused : Int32) (D_roundMany : Int32) (D_roundOver : Int32) (D_round : Nat → Int32) (D_terms : Int32) (D_reach : Nat → Int32) (D_edge : Nat → Int32) (D_by : Nat → Int32), q_X7_begin_151 D_readLevels D_readAsked D_asked D_readKinds D_levels D_now D_undoMany D_keptMany D_refused D_roundMany D_roundOver D_round D_terms D_reach D_edge D_by = some (z_D_levels, z_D_now, z_D_undoMany, z_D_keptMany, z_D_refused, z_D_roundMany, z_D_roundOver, z_D_round, z_D_terms, z_D_reach, z_D_edge, z_D_by) → J (W_X7_begin cI cS cII DA D_length D_text D_levels D_readLevels D_readAsked D_asked D_readKinds D_now D_before D_undoMany D_kept D_keptMany D_refused D_roundMany D_roundOver D_round D_terms D_termLevel D_termAdd D_spot D_number D_reach D_edge D_by) 151 [(0, .ref (DA 0))] [] := by
  intro D_levels D_now D_undoMany D_keptMany D_refused D_roundMany D_roundOver D_round D_terms D_reach D_edge D_by hF
  unfold q_X7_begin_151 at hF
  refine jj_aload_n hJ dX7_begin_151 0 rfl rfl ?_
  refine jj_iconst hJ dX7_begin_152 ic_0 ?_
  refine jj_puti hJ lay_X7 tyX7 tyX7_ok nmX7 dX7_begin_153 0 16 rfl rfl (Nat.le_of_ble_eq_true rfl) kw_222 rfl rfl (Nat.le_of_ble_eq_true rfl) (wn := (W_X7_begin cI cS cII DA D_length D_text D_levels D_readLevels D_readAsked D_asked D_readKinds D_now D_before D_undoMany D_kept D_keptMany D_refused D_roundMany D_roundOver D_round 0 D_termLevel D_termAdd D_spot D_number D_reach D_edge D_by)) rfl ?_
  refine jj_aload_n hJ dX7_begin_156 0 rfl rfl ?_
  refine jj_iconst hJ dX7_begin_157 ic_0 ?_
  refine jj_puti hJ lay_X7 tyX7 tyX7_ok nmX7 dX7_begin_158 0 9 rfl rfl (Nat.le_of_ble_eq_true rfl) kw_223 rfl rfl (Nat.le_of_ble_eq_true rfl) (wn := (W_X7_begin cI cS cII DA D_length D_text D_levels D_readLevels D_readAsked D_asked D_readKinds D_now D_before 0 D_kept D_keptMany D_refused D_roundMany D_roundOver D_round 0 D_termLevel D_termAdd D_spot D_number D_reach D_edge D_by)) rfl ?_
  refine jj_aload_n hJ dX7_begin_161 0 rfl rfl ?_
  refine jj_iconst hJ dX7_begin_162 ic_0 ?_
  refine jj_puti hJ lay_X7 tyX7 tyX7_ok nmX7 dX7_begin_163 0 11 rfl rfl (Nat.le_of_ble_eq_true rfl) kw_224 rfl rfl (Nat.le_of_ble_eq_true rfl) (wn := (W_X7_begin cI cS cII DA D_length D_text D_levels D_readLevels D_readAsked D_asked D_readKinds D_now D_before 0 D_kept 0 D_refused D_roundMany D_roundOver D_round 0 D_termLevel D_termAdd D_spot D_number D_reach D_edge D_by)) rfl ?_
  cases Option.some.inj hF
  exact jj_vret hJ dX7_begin_166
def q_X7_begin_58 (D_readLevels : Int32) (D_readAsked : Int32) (D_asked : Nat → Int32) (D_readKinds : Nat → Int32)  : Nat → Int32 → Int32 → (Nat → Int32) → Int32 → Int32 → Int32 → Int32 → Int32 → (Nat → Int32) → Int32 → (Nat → Int32) → (Nat → Int32) → (Nat → Int32) → Option (Int32 × (Nat → Int32) × Int32 × Int32 × Int32 × Int32 × Int32 × (Nat → Int32) × Int32 × (Nat → Int32) × (Nat → Int32) × (Nat → Int32))
  | 0, _, _, _, _, _, _, _, _, _, _, _, _, _ => none
  | n + 1, v1, D_levels, D_now, D_undoMany, D_keptMany, D_refused, D_roundMany, D_roundOver, D_round, D_terms, D_reach, D_edge, D_by => if D_readAsked ≤ v1 then (q_X7_begin_151 D_readLevels D_readAsked D_asked D_readKinds D_levels D_now D_undoMany D_keptMany D_refused D_roundMany D_roundOver D_round D_terms D_reach D_edge D_by) else ((rd D_asked 160 (4 * v1)).bind fun x2 => (rd D_asked 160 ((4 * v1) + 1)).bind fun x4 => (rd D_asked 160 ((4 * v1) + 2)).bind fun x6 => (p_X7_mayTake D_levels D_now D_refused D_roundMany D_roundOver D_round D_reach D_edge D_by x2 x4 x6).bind fun (r9, g10, g11, g12, g13, g14, g15, g16) => if r9 = 0 then (q_X7_begin_58 D_readLevels D_readAsked D_asked D_readKinds n (v1 + 1) D_levels D_now D_undoMany D_keptMany g10 g11 g12 g13 D_terms g14 g15 g16) else ((rd D_now 59 10).bind fun x18 => if 16 ≤ x18 then (q_X7_begin_58 D_readLevels D_readAsked D_asked D_readKinds n (v1 + 1) D_levels D_now D_undoMany D_keptMany g10 g11 g12 g13 D_terms g14 g15 g16) else ((rd D_asked 160 (4 * v1)).bind fun x21 => (rd D_asked 160 ((4 * v1) + 1)).bind fun x23 => (rd D_asked 160 ((4 * v1) + 2)).bind fun x25 => (p_X7_takeBound D_now x21 x23 x25).bind fun g28 => q_X7_begin_58 D_readLevels D_readAsked D_asked D_readKinds n (v1 + 1) D_levels g28 D_undoMany D_keptMany g10 g11 g12 g13 D_terms g14 g15 g16)))
set_option maxRecDepth 100000 in
theorem w_X7_begin_58 {D_length : Int32} {D_text : Nat → Int32} {D_readLevels : Int32} {D_readAsked : Int32} {D_asked : Nat → Int32} {D_readKinds : Nat → Int32} {D_before : Nat → Int32} {D_kept : Nat → Int32} {D_termLevel : Nat → Int32} {D_termAdd : Nat → Int32} {D_spot : Int32} {D_number : Nat → Int32}   (hJ : jJ l cX7_begin 2 D (tysU cI cS cII) RX7 Rm_X7_begin none A none (W_X7_begin cI cS cII DA D_length D_text z_D_levels D_readLevels D_readAsked D_asked D_readKinds z_D_now D_before z_D_undoMany D_kept z_D_keptMany z_D_refused z_D_roundMany z_D_roundOver z_D_round z_D_terms D_termLevel D_termAdd D_spot D_number z_D_reach z_D_edge z_D_by) J)  : ∀ (n : Nat) (v1 : Int32) (D_levels : Int32) (D_now : Nat → Int32) (D_undoMany : Int32) (D_keptMany : Int32) (D_refused : Int32) (D_roundMany : Int32) (D_roundOver : Int32) (D_round : Nat → Int32) (D_terms : Int32) (D_reach : Nat → Int32) (D_edge : Nat → Int32) (D_by : Nat → Int32), q_X7_begin_58 D_readLevels D_readAsked D_asked D_readKinds n v1 D_levels D_now D_undoMany D_keptMany D_refused D_roundMany D_roundOver D_round D_terms D_reach D_edge D_by = some (z_D_levels, z_D_now, z_D_undoMany, z_D_keptMany, z_D_refused, z_D_roundMany, z_D_roundOver, z_D_round, z_D_terms, z_D_reach, z_D_edge, z_D_by) → J (W_X7_begin cI cS cII DA D_length D_text D_levels D_readLevels D_readAsked D_asked D_readKinds D_now D_before D_undoMany D_kept D_keptMany D_refused D_roundMany D_roundOver D_round D_terms D_termLevel D_termAdd D_spot D_number D_reach D_edge D_by) 58 [(1, .int v1), (0, .ref (DA 0))] [] := by
  intro n
  induction n with
  | zero =>
    intro v1 D_levels D_now D_undoMany D_keptMany D_refused D_roundMany D_roundOver D_round D_terms D_reach D_edge D_by hF
    exact no_some (show (none : Option (Int32 × (Nat → Int32) × Int32 × Int32 × Int32 × Int32 × Int32 × (Nat → Int32) × Int32 × (Nat → Int32) × (Nat → Int32) × (Nat → Int32))) = some (z_D_levels, z_D_now, z_D_undoMany, z_D_keptMany, z_D_refused, z_D_roundMany, z_D_roundOver, z_D_round, z_D_terms, z_D_reach, z_D_edge, z_D_by) from hF)
  | succ n ih =>
    intro v1 D_levels D_now D_undoMany D_keptMany D_refused D_roundMany D_roundOver D_round D_terms D_reach D_edge D_by hF
    rw [q_X7_begin_58.eq_2] at hF
    refine jj_iload_n hJ dX7_begin_58 0 rfl rfl ?_
    refine jj_aload_n hJ dX7_begin_59 1 rfl rfl ?_
    refine jj_get hJ lay_X7 dX7_begin_60 0 4 rfl rfl (Nat.le_of_ble_eq_true rfl) kw_135 rfl ?_
    refine jj_icmp_ge hJ 151 dX7_begin_63 rfl (fun c1 => ?_) (fun c1 => ?_)
    · replace hF := ip c1 hF
      refine jj_lv hJ [1] (lv' := [(0, .ref (DA 0))]) rfl ?_
      exact w_X7_begin_151 hJ  D_levels D_now D_undoMany D_keptMany D_refused D_roundMany D_roundOver D_round D_terms D_reach D_edge D_by hF
    · replace hF := iq c1 hF
      refine jj_aload_n hJ dX7_begin_66 1 rfl rfl ?_
      refine jj_aload_n hJ dX7_begin_67 1 rfl rfl ?_
      refine jj_get hJ lay_X7 dX7_begin_68 0 5 rfl rfl (Nat.le_of_ble_eq_true rfl) kw_137 rfl ?_
      refine jj_iconst hJ dX7_begin_71 ic_4 ?_
      refine jj_iload_n hJ dX7_begin_72 0 rfl rfl ?_
      refine jj_imul hJ dX7_begin_73 ?_
      obtain ⟨x2, h3, hF⟩ := ob hF
      refine jj_iald hJ dX7_begin_74 2 0 rfl rfl h3 ?_
      refine jj_aload_n hJ dX7_begin_75 1 rfl rfl ?_
      refine jj_get hJ lay_X7 dX7_begin_76 0 5 rfl rfl (Nat.le_of_ble_eq_true rfl) kw_137 rfl ?_
      refine jj_iconst hJ dX7_begin_79 ic_4 ?_
      refine jj_iload_n hJ dX7_begin_80 0 rfl rfl ?_
      refine jj_imul hJ dX7_begin_81 ?_
      refine jj_iconst hJ dX7_begin_82 ic_1 ?_
      refine jj_iadd hJ dX7_begin_83 ?_
      obtain ⟨x4, h5, hF⟩ := ob hF
      refine jj_iald hJ dX7_begin_84 2 0 rfl rfl h5 ?_
      refine jj_aload_n hJ dX7_begin_85 1 rfl rfl ?_
      refine jj_get hJ lay_X7 dX7_begin_86 0 5 rfl rfl (Nat.le_of_ble_eq_true rfl) kw_137 rfl ?_
      refine jj_iconst hJ dX7_begin_89 ic_4 ?_
      refine jj_iload_n hJ dX7_begin_90 0 rfl rfl ?_
      refine jj_imul hJ dX7_begin_91 ?_
      refine jj_iconst hJ dX7_begin_92 ic_2 ?_
      refine jj_iadd hJ dX7_begin_93 ?_
      obtain ⟨x6, h7, hF⟩ := ob hF
      refine jj_iald hJ dX7_begin_94 2 0 rfl rfl h7 ?_
      obtain ⟨⟨r9, g10, g11, g12, g13, g14, g15, g16⟩, h8, hF⟩ := ob hF
      refine jj_callV hJ (c_X7_mayTake l D cI cS cII DA D_length D_text D_levels D_readLevels D_readAsked D_asked D_readKinds D_now D_before D_undoMany D_kept D_keptMany D_refused D_roundMany D_roundOver D_round D_terms D_termLevel D_termAdd D_spot D_number D_reach D_edge D_by x2 x4 x6 h8) dX7_begin_95 kw_215 ⟨Nat.le_of_ble_eq_true rfl, Nat.le_of_ble_eq_true rfl, rfl, rfl⟩ kw_214 kw_216 kw_217 0 rfl rfl rfl rfl (Nat.le_of_ble_eq_true rfl) [0, 1, 2, 3, 4, 5, 6, 7, 8, 9, 10, 11, 12, 13] rfl rfl (wn := (W_X7_begin cI cS cII DA D_length D_text D_levels D_readLevels D_readAsked D_asked D_readKinds D_now D_before D_undoMany D_kept D_keptMany g10 g11 g12 g13 D_terms D_termLevel D_termAdd D_spot D_number g14 g15 g16)) (jNew_sel rfl [some 0, some 1, some 2, some 3, some 4, some 5, some 6, some 7, some 8, some 9, some 10, some 11, some 12, some 13] (by decide +kernel) rfl) ?_
      refine jj_if_eq hJ 145 dX7_begin_98 rfl (fun c17 => ?_) (fun c17 => ?_)
      · replace hF := ip c17 hF
        refine jj_iinc hJ dX7_begin_145 0 rfl (v := v1 + 1) (by rw [ic_1]) (Nat.le_of_ble_eq_true rfl) (lv' := [(1, .int (v1 + 1)), (0, .ref (DA 0))]) rfl ?_
        refine jj_goto hJ 58 dX7_begin_148 rfl ?_
        exact ih (v1 + 1) D_levels D_now D_undoMany D_keptMany g10 g11 g12 g13 D_terms g14 g15 g16 hF
      · replace hF := iq c17 hF
        refine jj_aload_n hJ dX7_begin_101 1 rfl rfl ?_
        refine jj_get hJ lay_X7 dX7_begin_102 0 7 rfl rfl (Nat.le_of_ble_eq_true rfl) kw_178 rfl ?_
        refine jj_bipush hJ dX7_begin_105 bp_10 ?_
        obtain ⟨x18, h19, hF⟩ := ob hF
        refine jj_iald hJ dX7_begin_107 4 0 rfl rfl h19 ?_
        refine jj_bipush hJ dX7_begin_108 bp_16 ?_
        refine jj_icmp_ge hJ 145 dX7_begin_110 rfl (fun c20 => ?_) (fun c20 => ?_)
        · replace hF := ip c20 hF
          refine jj_iinc hJ dX7_begin_145 0 rfl (v := v1 + 1) (by rw [ic_1]) (Nat.le_of_ble_eq_true rfl) (lv' := [(1, .int (v1 + 1)), (0, .ref (DA 0))]) rfl ?_
          refine jj_goto hJ 58 dX7_begin_148 rfl ?_
          exact ih (v1 + 1) D_levels D_now D_undoMany D_keptMany g10 g11 g12 g13 D_terms g14 g15 g16 hF
        · replace hF := iq c20 hF
          refine jj_aload_n hJ dX7_begin_113 1 rfl rfl ?_
          refine jj_aload_n hJ dX7_begin_114 1 rfl rfl ?_
          refine jj_get hJ lay_X7 dX7_begin_115 0 5 rfl rfl (Nat.le_of_ble_eq_true rfl) kw_137 rfl ?_
          refine jj_iconst hJ dX7_begin_118 ic_4 ?_
          refine jj_iload_n hJ dX7_begin_119 0 rfl rfl ?_
          refine jj_imul hJ dX7_begin_120 ?_
          obtain ⟨x21, h22, hF⟩ := ob hF
          refine jj_iald hJ dX7_begin_121 2 0 rfl rfl h22 ?_
          refine jj_aload_n hJ dX7_begin_122 1 rfl rfl ?_
          refine jj_get hJ lay_X7 dX7_begin_123 0 5 rfl rfl (Nat.le_of_ble_eq_true rfl) kw_137 rfl ?_
          refine jj_iconst hJ dX7_begin_126 ic_4 ?_
          refine jj_iload_n hJ dX7_begin_127 0 rfl rfl ?_
          refine jj_imul hJ dX7_begin_128 ?_
          refine jj_iconst hJ dX7_begin_129 ic_1 ?_
          refine jj_iadd hJ dX7_begin_130 ?_
          obtain ⟨x23, h24, hF⟩ := ob hF
          refine jj_iald hJ dX7_begin_131 2 0 rfl rfl h24 ?_
          refine jj_aload_n hJ dX7_begin_132 1 rfl rfl ?_
          refine jj_get hJ lay_X7 dX7_begin_133 0 5 rfl rfl (Nat.le_of_ble_eq_true rfl) kw_137 rfl ?_
          refine jj_iconst hJ dX7_begin_136 ic_4 ?_
          refine jj_iload_n hJ dX7_begin_137 0 rfl rfl ?_
          refine jj_imul hJ dX7_begin_138 ?_
          refine jj_iconst hJ dX7_begin_139 ic_2 ?_
          refine jj_iadd hJ dX7_begin_140 ?_
          obtain ⟨x25, h26, hF⟩ := ob hF
          refine jj_iald hJ dX7_begin_141 2 0 rfl rfl h26 ?_
          obtain ⟨g28, h27, hF⟩ := ob hF
          refine jj_callV hJ (c_X7_takeBound l D cI cS cII DA D_length D_text D_levels D_readLevels D_readAsked D_asked D_readKinds D_now D_before D_undoMany D_kept D_keptMany g10 g11 g12 g13 D_terms D_termLevel D_termAdd D_spot D_number g14 g15 g16 x21 x23 x25 h27) dX7_begin_142 kw_219 ⟨Nat.le_of_ble_eq_true rfl, Nat.le_of_ble_eq_true rfl, rfl, rfl⟩ kw_218 kw_220 kw_221 0 rfl rfl rfl rfl (Nat.le_of_ble_eq_true rfl) [0, 1, 2, 3, 4, 5, 6, 7, 8, 9, 10, 11, 12, 13] rfl rfl (wn := (W_X7_begin cI cS cII DA D_length D_text D_levels D_readLevels D_readAsked D_asked D_readKinds g28 D_before D_undoMany D_kept D_keptMany g10 g11 g12 g13 D_terms D_termLevel D_termAdd D_spot D_number g14 g15 g16)) (jNew_sel rfl [some 0, some 1, some 2, some 3, some 4, some 5, some 6, some 7, some 8, some 9, some 10, some 11, some 12, some 13] (by decide +kernel) rfl) ?_
          refine jj_iinc hJ dX7_begin_145 0 rfl (v := v1 + 1) (by rw [ic_1]) (Nat.le_of_ble_eq_true rfl) (lv' := [(1, .int (v1 + 1)), (0, .ref (DA 0))]) rfl ?_
          refine jj_goto hJ 58 dX7_begin_148 rfl ?_
          exact ih (v1 + 1) D_levels g28 D_undoMany D_keptMany g10 g11 g12 g13 D_terms g14 g15 g16 hF
def q_X7_begin_46 (D_readLevels : Int32) (D_readAsked : Int32) (D_asked : Nat → Int32) (D_readKinds : Nat → Int32)  (D_levels : Int32) (D_now : Nat → Int32) (D_undoMany : Int32) (D_keptMany : Int32) (D_refused : Int32) (D_roundMany : Int32) (D_roundOver : Int32) (D_round : Nat → Int32) (D_terms : Int32) (D_reach : Nat → Int32) (D_edge : Nat → Int32) (D_by : Nat → Int32) : Option (Int32 × (Nat → Int32) × Int32 × Int32 × Int32 × Int32 × Int32 × (Nat → Int32) × Int32 × (Nat → Int32) × (Nat → Int32) × (Nat → Int32)) := q_X7_begin_58 D_readLevels D_readAsked D_asked D_readKinds FU 0 D_levels D_now D_undoMany D_keptMany 0 0 D_roundOver D_round D_terms D_reach D_edge D_by
set_option maxRecDepth 100000 in
theorem w_X7_begin_46 {D_length : Int32} {D_text : Nat → Int32} {D_readLevels : Int32} {D_readAsked : Int32} {D_asked : Nat → Int32} {D_readKinds : Nat → Int32} {D_before : Nat → Int32} {D_kept : Nat → Int32} {D_termLevel : Nat → Int32} {D_termAdd : Nat → Int32} {D_spot : Int32} {D_number : Nat → Int32}   (hJ : jJ l cX7_begin 2 D (tysU cI cS cII) RX7 Rm_X7_begin none A none (W_X7_begin cI cS cII DA D_length D_text z_D_levels D_readLevels D_readAsked D_asked D_readKinds z_D_now D_before z_D_undoMany D_kept z_D_keptMany z_D_refused z_D_roundMany z_D_roundOver z_D_round z_D_terms D_termLevel D_termAdd D_spot D_number z_D_reach z_D_edge z_D_by) J)  : ∀ (D_levels : Int32) (D_now : Nat → Int32) (D_undoMany : Int32) (D_keptMany : Int32) (D_refused : Int32) (D_roundMany : Int32) (D_roundOver : Int32) (D_round : Nat → Int32) (D_terms : Int32) (D_reach : Nat → Int32) (D_edge : Nat → Int32) (D_by : Nat → Int32), q_X7_begin_46 D_readLevels D_readAsked D_asked D_readKinds D_levels D_now D_undoMany D_keptMany D_refused D_roundMany D_roundOver D_round D_terms D_reach D_edge D_by = some (z_D_levels, z_D_now, z_D_undoMany, z_D_keptMany, z_D_refused, z_D_roundMany, z_D_roundOver, z_D_round, z_D_terms, z_D_reach, z_D_edge, z_D_by) → J (W_X7_begin cI cS cII DA D_length D_text D_levels D_readLevels D_readAsked D_asked D_readKinds D_now D_before D_undoMany D_kept D_keptMany D_refused D_roundMany D_roundOver D_round D_terms D_termLevel D_termAdd D_spot D_number D_reach D_edge D_by) 46 [(0, .ref (DA 0))] [] := by
  intro D_levels D_now D_undoMany D_keptMany D_refused D_roundMany D_roundOver D_round D_terms D_reach D_edge D_by hF
  unfold q_X7_begin_46 at hF
  refine jj_aload_n hJ dX7_begin_46 0 rfl rfl ?_
  refine jj_iconst hJ dX7_begin_47 ic_0 ?_
  refine jj_puti hJ lay_X7 tyX7 tyX7_ok nmX7 dX7_begin_48 0 12 rfl rfl (Nat.le_of_ble_eq_true rfl) kw_209 rfl rfl (Nat.le_of_ble_eq_true rfl) (wn := (W_X7_begin cI cS cII DA D_length D_text D_levels D_readLevels D_readAsked D_asked D_readKinds D_now D_before D_undoMany D_kept D_keptMany 0 D_roundMany D_roundOver D_round D_terms D_termLevel D_termAdd D_spot D_number D_reach D_edge D_by)) rfl ?_
  refine jj_aload_n hJ dX7_begin_51 0 rfl rfl ?_
  refine jj_iconst hJ dX7_begin_52 ic_0 ?_
  refine jj_puti hJ lay_X7 tyX7 tyX7_ok nmX7 dX7_begin_53 0 13 rfl rfl (Nat.le_of_ble_eq_true rfl) kw_195 rfl rfl (Nat.le_of_ble_eq_true rfl) (wn := (W_X7_begin cI cS cII DA D_length D_text D_levels D_readLevels D_readAsked D_asked D_readKinds D_now D_before D_undoMany D_kept D_keptMany 0 0 D_roundOver D_round D_terms D_termLevel D_termAdd D_spot D_number D_reach D_edge D_by)) rfl ?_
  refine jj_iconst hJ dX7_begin_56 ic_0 ?_
  refine jj_istore_n hJ dX7_begin_57 rfl (Nat.le_of_ble_eq_true rfl) (lv' := [(1, .int 0), (0, .ref (DA 0))]) rfl ?_
  exact w_X7_begin_58 hJ  FU 0 D_levels D_now D_undoMany D_keptMany 0 0 D_roundOver D_round D_terms D_reach D_edge D_by hF
def q_X7_begin_10 (D_readLevels : Int32) (D_readAsked : Int32) (D_asked : Nat → Int32) (D_readKinds : Nat → Int32)  : Nat → Int32 → Int32 → (Nat → Int32) → Int32 → Int32 → Int32 → Int32 → Int32 → (Nat → Int32) → Int32 → (Nat → Int32) → (Nat → Int32) → (Nat → Int32) → Option (Int32 × (Nat → Int32) × Int32 × Int32 × Int32 × Int32 × Int32 × (Nat → Int32) × Int32 × (Nat → Int32) × (Nat → Int32) × (Nat → Int32))
  | 0, _, _, _, _, _, _, _, _, _, _, _, _, _ => none
  | n + 1, v1, D_levels, D_now, D_undoMany, D_keptMany, D_refused, D_roundMany, D_roundOver, D_round, D_terms, D_reach, D_edge, D_by => if 59 ≤ v1 then (q_X7_begin_46 D_readLevels D_readAsked D_asked D_readKinds D_levels D_now D_undoMany D_keptMany D_refused D_roundMany D_roundOver D_round D_terms D_reach D_edge D_by) else (if D_levels ≤ v1 then ((wr D_now 59 v1 0).bind fun g3 => q_X7_begin_10 D_readLevels D_readAsked D_asked D_readKinds n (v1 + 1) D_levels g3 D_undoMany D_keptMany D_refused D_roundMany D_roundOver D_round D_terms D_reach D_edge D_by) else ((rd D_readKinds 10 v1).bind fun x5 => (wr D_now 59 v1 x5).bind fun g7 => q_X7_begin_10 D_readLevels D_readAsked D_asked D_readKinds n (v1 + 1) D_levels g7 D_undoMany D_keptMany D_refused D_roundMany D_roundOver D_round D_terms D_reach D_edge D_by))
set_option maxRecDepth 100000 in
theorem w_X7_begin_10 {D_length : Int32} {D_text : Nat → Int32} {D_readLevels : Int32} {D_readAsked : Int32} {D_asked : Nat → Int32} {D_readKinds : Nat → Int32} {D_before : Nat → Int32} {D_kept : Nat → Int32} {D_termLevel : Nat → Int32} {D_termAdd : Nat → Int32} {D_spot : Int32} {D_number : Nat → Int32}   (hJ : jJ l cX7_begin 2 D (tysU cI cS cII) RX7 Rm_X7_begin none A none (W_X7_begin cI cS cII DA D_length D_text z_D_levels D_readLevels D_readAsked D_asked D_readKinds z_D_now D_before z_D_undoMany D_kept z_D_keptMany z_D_refused z_D_roundMany z_D_roundOver z_D_round z_D_terms D_termLevel D_termAdd D_spot D_number z_D_reach z_D_edge z_D_by) J)  : ∀ (n : Nat) (v1 : Int32) (D_levels : Int32) (D_now : Nat → Int32) (D_undoMany : Int32) (D_keptMany : Int32) (D_refused : Int32) (D_roundMany : Int32) (D_roundOver : Int32) (D_round : Nat → Int32) (D_terms : Int32) (D_reach : Nat → Int32) (D_edge : Nat → Int32) (D_by : Nat → Int32), q_X7_begin_10 D_readLevels D_readAsked D_asked D_readKinds n v1 D_levels D_now D_undoMany D_keptMany D_refused D_roundMany D_roundOver D_round D_terms D_reach D_edge D_by = some (z_D_levels, z_D_now, z_D_undoMany, z_D_keptMany, z_D_refused, z_D_roundMany, z_D_roundOver, z_D_round, z_D_terms, z_D_reach, z_D_edge, z_D_by) → J (W_X7_begin cI cS cII DA D_length D_text D_levels D_readLevels D_readAsked D_asked D_readKinds D_now D_before D_undoMany D_kept D_keptMany D_refused D_roundMany D_roundOver D_round D_terms D_termLevel D_termAdd D_spot D_number D_reach D_edge D_by) 10 [(1, .int v1), (0, .ref (DA 0))] [] := by
  intro n
  induction n with
  | zero =>
    intro v1 D_levels D_now D_undoMany D_keptMany D_refused D_roundMany D_roundOver D_round D_terms D_reach D_edge D_by hF
    exact no_some (show (none : Option (Int32 × (Nat → Int32) × Int32 × Int32 × Int32 × Int32 × Int32 × (Nat → Int32) × Int32 × (Nat → Int32) × (Nat → Int32) × (Nat → Int32))) = some (z_D_levels, z_D_now, z_D_undoMany, z_D_keptMany, z_D_refused, z_D_roundMany, z_D_roundOver, z_D_round, z_D_terms, z_D_reach, z_D_edge, z_D_by) from hF)
  | succ n ih =>
    intro v1 D_levels D_now D_undoMany D_keptMany D_refused D_roundMany D_roundOver D_round D_terms D_reach D_edge D_by hF
    rw [q_X7_begin_10.eq_2] at hF
    refine jj_iload_n hJ dX7_begin_10 0 rfl rfl ?_
    refine jj_bipush hJ dX7_begin_11 bp_59 ?_
    refine jj_icmp_ge hJ 46 dX7_begin_13 rfl (fun c1 => ?_) (fun c1 => ?_)
    · replace hF := ip c1 hF
      refine jj_lv hJ [1] (lv' := [(0, .ref (DA 0))]) rfl ?_
      exact w_X7_begin_46 hJ  D_levels D_now D_undoMany D_keptMany D_refused D_roundMany D_roundOver D_round D_terms D_reach D_edge D_by hF
    · replace hF := iq c1 hF
      refine jj_aload_n hJ dX7_begin_16 1 rfl rfl ?_
      refine jj_get hJ lay_X7 dX7_begin_17 0 7 rfl rfl (Nat.le_of_ble_eq_true rfl) kw_178 rfl ?_
      refine jj_iload_n hJ dX7_begin_20 0 rfl rfl ?_
      refine jj_iload_n hJ dX7_begin_21 0 rfl rfl ?_
      refine jj_aload_n hJ dX7_begin_22 1 rfl rfl ?_
      refine jj_get hJ lay_X7 dX7_begin_23 0 2 rfl rfl (Nat.le_of_ble_eq_true rfl) kw_186 rfl ?_
      refine jj_icmp_ge hJ 38 dX7_begin_26 rfl (fun c2 => ?_) (fun c2 => ?_)
      · replace hF := ip c2 hF
        refine jj_iconst hJ dX7_begin_38 ic_0 ?_
        obtain ⟨g3, h4, hF⟩ := ob hF
        refine jj_iast hJ dX7_begin_39 4 0 rfl rfl h4 (wn := (W_X7_begin cI cS cII DA D_length D_text D_levels D_readLevels D_readAsked D_asked D_readKinds g3 D_before D_undoMany D_kept D_keptMany D_refused D_roundMany D_roundOver D_round D_terms D_termLevel D_termAdd D_spot D_number D_reach D_edge D_by)) rfl ?_
        refine jj_iinc hJ dX7_begin_40 0 rfl (v := v1 + 1) (by rw [ic_1]) (Nat.le_of_ble_eq_true rfl) (lv' := [(1, .int (v1 + 1)), (0, .ref (DA 0))]) rfl ?_
        refine jj_goto hJ 10 dX7_begin_43 rfl ?_
        exact ih (v1 + 1) D_levels g3 D_undoMany D_keptMany D_refused D_roundMany D_roundOver D_round D_terms D_reach D_edge D_by hF
      · replace hF := iq c2 hF
        refine jj_aload_n hJ dX7_begin_29 1 rfl rfl ?_
        refine jj_get hJ lay_X7 dX7_begin_30 0 6 rfl rfl (Nat.le_of_ble_eq_true rfl) kw_136 rfl ?_
        refine jj_iload_n hJ dX7_begin_33 0 rfl rfl ?_
        obtain ⟨x5, h6, hF⟩ := ob hF
        refine jj_iald hJ dX7_begin_34 3 0 rfl rfl h6 ?_
        refine jj_goto hJ 39 dX7_begin_35 rfl ?_
        obtain ⟨g7, h8, hF⟩ := ob hF
        refine jj_iast hJ dX7_begin_39 4 0 rfl rfl h8 (wn := (W_X7_begin cI cS cII DA D_length D_text D_levels D_readLevels D_readAsked D_asked D_readKinds g7 D_before D_undoMany D_kept D_keptMany D_refused D_roundMany D_roundOver D_round D_terms D_termLevel D_termAdd D_spot D_number D_reach D_edge D_by)) rfl ?_
        refine jj_iinc hJ dX7_begin_40 0 rfl (v := v1 + 1) (by rw [ic_1]) (Nat.le_of_ble_eq_true rfl) (lv' := [(1, .int (v1 + 1)), (0, .ref (DA 0))]) rfl ?_
        refine jj_goto hJ 10 dX7_begin_43 rfl ?_
        exact ih (v1 + 1) D_levels g7 D_undoMany D_keptMany D_refused D_roundMany D_roundOver D_round D_terms D_reach D_edge D_by hF
def p_X7_begin (D_levels : Int32) (D_readLevels : Int32) (D_readAsked : Int32) (D_asked : Nat → Int32) (D_readKinds : Nat → Int32) (D_now : Nat → Int32) (D_undoMany : Int32) (D_keptMany : Int32) (D_refused : Int32) (D_roundMany : Int32) (D_roundOver : Int32) (D_round : Nat → Int32) (D_terms : Int32) (D_reach : Nat → Int32) (D_edge : Nat → Int32) (D_by : Nat → Int32) : Option (Int32 × (Nat → Int32) × Int32 × Int32 × Int32 × Int32 × Int32 × (Nat → Int32) × Int32 × (Nat → Int32) × (Nat → Int32) × (Nat → Int32)) := q_X7_begin_10 D_readLevels D_readAsked D_asked D_readKinds FU 0 D_readLevels D_now D_undoMany D_keptMany D_refused D_roundMany D_roundOver D_round D_terms D_reach D_edge D_by
end
set_option maxRecDepth 100000 in
theorem c_X7_begin (l : Launch) (D : va_G) (cI cS cII : ClassId) (DA : Nat → Nat) (D_length : Int32) (D_text : Nat → Int32) (D_levels : Int32) (D_readLevels : Int32) (D_readAsked : Int32) (D_asked : Nat → Int32) (D_readKinds : Nat → Int32) (D_now : Nat → Int32) (D_before : Nat → Int32) (D_undoMany : Int32) (D_kept : Nat → Int32) (D_keptMany : Int32) (D_refused : Int32) (D_roundMany : Int32) (D_roundOver : Int32) (D_round : Nat → Int32) (D_terms : Int32) (D_termLevel : Nat → Int32) (D_termAdd : Nat → Int32) (D_spot : Int32) (D_number : Nat → Int32) (D_reach : Nat → Int32) (D_edge : Nat → Int32) (D_by : Nat → Int32)  {z_D_levels : Int32} {z_D_now : Nat → Int32} {z_D_undoMany : Int32} {z_D_keptMany : Int32} {z_D_refused : Int32} {z_D_roundMany : Int32} {z_D_roundOver : Int32} {z_D_round : Nat → Int32} {z_D_terms : Int32} {z_D_reach : Nat → Int32} {z_D_edge : Nat → Int32} {z_D_by : Nat → Int32} (hF : p_X7_begin D_levels D_readLevels D_readAsked D_asked D_readKinds D_now D_undoMany D_keptMany D_refused D_roundMany D_roundOver D_round D_terms D_reach D_edge D_by = some (z_D_levels, z_D_now, z_D_undoMany, z_D_keptMany, z_D_refused, z_D_roundMany, z_D_roundOver, z_D_round, z_D_terms, z_D_reach, z_D_edge, z_D_by)) : MJ l yX7_begin cX7_begin 2 none Rm_X7_begin D (tysU cI cS cII) [.ref (DA 0)] (W_X7_begin cI cS cII DA D_length D_text D_levels D_readLevels D_readAsked D_asked D_readKinds D_now D_before D_undoMany D_kept D_keptMany D_refused D_roundMany D_roundOver D_round D_terms D_termLevel D_termAdd D_spot D_number D_reach D_edge D_by) none (W_X7_begin cI cS cII DA D_length D_text z_D_levels D_readLevels D_readAsked D_asked D_readKinds z_D_now D_before z_D_undoMany D_kept z_D_keptMany z_D_refused z_D_roundMany z_D_roundOver z_D_round z_D_terms D_termLevel D_termAdd D_spot D_number z_D_reach z_D_edge z_D_by) := by
  refine mj_of (own := RX7) (by decide) rfl (Nat.le_of_ble_eq_true rfl) (fun J hJ => ?_)
  show J (W_X7_begin cI cS cII DA D_length D_text D_levels D_readLevels D_readAsked D_asked D_readKinds D_now D_before D_undoMany D_kept D_keptMany D_refused D_roundMany D_roundOver D_round D_terms D_termLevel D_termAdd D_spot D_number D_reach D_edge D_by) 0 [(0, .ref (DA 0))] []
  unfold p_X7_begin at hF
  refine jj_aload_n hJ dX7_begin_0 0 rfl rfl ?_
  refine jj_aload_n hJ dX7_begin_1 0 rfl rfl ?_
  refine jj_get hJ lay_X7 dX7_begin_2 0 3 rfl rfl (Nat.le_of_ble_eq_true rfl) kw_134 rfl ?_
  refine jj_puti hJ lay_X7 tyX7 tyX7_ok nmX7 dX7_begin_5 0 2 rfl rfl (Nat.le_of_ble_eq_true rfl) kw_186 rfl rfl (Nat.le_of_ble_eq_true rfl) (wn := (W_X7_begin cI cS cII DA D_length D_text D_readLevels D_readLevels D_readAsked D_asked D_readKinds D_now D_before D_undoMany D_kept D_keptMany D_refused D_roundMany D_roundOver D_round D_terms D_termLevel D_termAdd D_spot D_number D_reach D_edge D_by)) rfl ?_
  refine jj_iconst hJ dX7_begin_8 ic_0 ?_
  refine jj_istore_n hJ dX7_begin_9 rfl (Nat.le_of_ble_eq_true rfl) (lv' := [(1, .int 0), (0, .ref (DA 0))]) rfl ?_
  exact w_X7_begin_10 hJ  FU 0 D_readLevels D_now D_undoMany D_keptMany D_refused D_roundMany D_roundOver D_round D_terms D_reach D_edge D_by hF
section
def W_X7_lay (cI cS cII : ClassId) (DA : Nat → Nat) (D_length : Int32) (D_text : Nat → Int32) (D_levels : Int32) (D_readLevels : Int32) (D_readAsked : Int32) (D_asked : Nat → Int32) (D_readKinds : Nat → Int32) (D_now : Nat → Int32) (D_before : Nat → Int32) (D_undoMany : Int32) (D_kept : Nat → Int32) (D_keptMany : Int32) (D_refused : Int32) (D_roundMany : Int32) (D_roundOver : Int32) (D_round : Nat → Int32) (D_terms : Int32) (D_termLevel : Nat → Int32) (D_termAdd : Nat → Int32) (D_spot : Int32) (D_number : Nat → Int32) (D_reach : Nat → Int32) (D_edge : Nat → Int32) (D_by : Nat → Int32) : va_W := [((DA 0), .inr (7, [.int D_length, .ref (DA 1), .int D_levels, .int D_readLevels, .int D_readAsked, .ref (DA 2), .ref (DA 3), .ref (DA 4), .ref (DA 5), .int D_undoMany, .ref (DA 6), .int D_keptMany, .int D_refused, .int D_roundMany, .int D_roundOver, .ref (DA 7), .int D_terms, .ref (DA 8), .ref (DA 9), .int D_spot, .ref (DA 10), .ref (DA 11), .ref (DA 12), .ref (DA 13)])), ((DA 1), .inl (cI, 200, .inl D_text)), ((DA 2), .inl (cI, 160, .inl D_asked)), ((DA 3), .inl (cI, 10, .inl D_readKinds)), ((DA 4), .inl (cI, 59, .inl D_now)), ((DA 5), .inl (cI, 472, .inl D_before)), ((DA 6), .inl (cI, 118, .inl D_kept)), ((DA 7), .inl (cI, 12, .inl D_round)), ((DA 8), .inl (cI, 6, .inl D_termLevel)), ((DA 9), .inl (cI, 6, .inl D_termAdd)), ((DA 10), .inl (cI, 3, .inl D_number)), ((DA 11), .inl (cI, 100, .inl D_reach)), ((DA 12), .inl (cI, 100, .inl D_edge)), ((DA 13), .inl (cI, 110, .inl D_by))]
abbrev Rm_X7_lay : Room := { frames := 5, cells := 0, slots := 0, locals := 112 }
variable {l : Launch} {D : va_G} {cI cS cII : ClassId} {DA : Nat → Nat} {A : Nat → Prop} {J : jT}
variable {z_r : Int32} {z_D_levels : Int32} {z_D_readLevels : Int32} {z_D_readAsked : Int32} {z_D_asked : Nat → Int32} {z_D_readKinds : Nat → Int32} {z_D_now : Nat → Int32} {z_D_undoMany : Int32} {z_D_keptMany : Int32} {z_D_refused : Int32} {z_D_roundMany : Int32} {z_D_roundOver : Int32} {z_D_round : Nat → Int32} {z_D_terms : Int32} {z_D_spot : Int32} {z_D_number : Nat → Int32} {z_D_reach : Nat → Int32} {z_D_edge : Nat → Int32} {z_D_by : Nat → Int32}
def p_X7_lay (D_length : Int32) (D_text : Nat → Int32) (D_levels : Int32) (D_readLevels : Int32) (D_readAsked : Int32) (D_asked : Nat → Int32) (D_readKinds : Nat → Int32) (D_now : Nat → Int32) (D_undoMany : Int32) (D_keptMany : Int32) (D_refused : Int32) (D_roundMany : Int32) (D_roundOver : Int32) (D_round : Nat → Int32) (D_terms : Int32) (D_spot : Int32) (D_number : Nat → Int32) (D_reach : Nat → Int32) (D_edge : Nat → Int32) (D_by : Nat → Int32) : Option (Int32 × Int32 × Int32 × Int32 × (Nat → Int32) × (Nat → Int32) × (Nat → Int32) × Int32 × Int32 × Int32 × Int32 × Int32 × (Nat → Int32) × Int32 × Int32 × (Nat → Int32) × (Nat → Int32) × (Nat → Int32) × (Nat → Int32)) := (p_X7_readAll D_length D_text D_readLevels D_readAsked D_asked D_readKinds D_spot D_number).bind fun (r2, g3, g4, g5, g6, g7, g8) => if r2 = ((-4)) then (if g3 = 0 then (some ((-2), D_levels, g3, g4, g5, g6, D_now, D_undoMany, D_keptMany, D_refused, D_roundMany, D_roundOver, D_round, D_terms, g7, g8, D_reach, D_edge, D_by)) else ((p_X7_begin D_levels g3 g4 g5 g6 D_now D_undoMany D_keptMany D_refused D_roundMany D_roundOver D_round D_terms D_reach D_edge D_by).bind fun (g12, g13, g14, g15, g16, g17, g18, g19, g20, g21, g22, g23) => (rd g13 59 10).bind fun x24 => some (x24, g12, g3, g4, g5, g6, g13, g14, g15, g16, g17, g18, g19, g20, g7, g8, g21, g22, g23))) else (some ((-2), D_levels, g3, g4, g5, g6, D_now, D_undoMany, D_keptMany, D_refused, D_roundMany, D_roundOver, D_round, D_terms, g7, g8, D_reach, D_edge, D_by))
end
set_option maxRecDepth 100000 in
theorem c_X7_lay (l : Launch) (D : va_G) (cI cS cII : ClassId) (DA : Nat → Nat) (D_length : Int32) (D_text : Nat → Int32) (D_levels : Int32) (D_readLevels : Int32) (D_readAsked : Int32) (D_asked : Nat → Int32) (D_readKinds : Nat → Int32) (D_now : Nat → Int32) (D_before : Nat → Int32) (D_undoMany : Int32) (D_kept : Nat → Int32) (D_keptMany : Int32) (D_refused : Int32) (D_roundMany : Int32) (D_roundOver : Int32) (D_round : Nat → Int32) (D_terms : Int32) (D_termLevel : Nat → Int32) (D_termAdd : Nat → Int32) (D_spot : Int32) (D_number : Nat → Int32) (D_reach : Nat → Int32) (D_edge : Nat → Int32) (D_by : Nat → Int32)  {z_r : Int32} {z_D_levels : Int32} {z_D_readLevels : Int32} {z_D_readAsked : Int32} {z_D_asked : Nat → Int32} {z_D_readKinds : Nat → Int32} {z_D_now : Nat → Int32} {z_D_undoMany : Int32} {z_D_keptMany : Int32} {z_D_refused : Int32} {z_D_roundMany : Int32} {z_D_roundOver : Int32} {z_D_round : Nat → Int32} {z_D_terms : Int32} {z_D_spot : Int32} {z_D_number : Nat → Int32} {z_D_reach : Nat → Int32} {z_D_edge : Nat → Int32} {z_D_by : Nat → Int32} (hF : p_X7_lay D_length D_text D_levels D_readLevels D_readAsked D_asked D_readKinds D_now D_undoMany D_keptMany D_refused D_roundMany D_roundOver D_round D_terms D_spot D_number D_reach D_edge D_by = some (z_r, z_D_levels, z_D_readLevels, z_D_readAsked, z_D_asked, z_D_readKinds, z_D_now, z_D_undoMany, z_D_keptMany, z_D_refused, z_D_roundMany, z_D_roundOver, z_D_round, z_D_terms, z_D_spot, z_D_number, z_D_reach, z_D_edge, z_D_by)) : MJ l yX7_lay cX7_lay 1 (some .int) Rm_X7_lay D (tysU cI cS cII) [.ref (DA 0)] (W_X7_lay cI cS cII DA D_length D_text D_levels D_readLevels D_readAsked D_asked D_readKinds D_now D_before D_undoMany D_kept D_keptMany D_refused D_roundMany D_roundOver D_round D_terms D_termLevel D_termAdd D_spot D_number D_reach D_edge D_by) (some z_r) (W_X7_lay cI cS cII DA D_length D_text z_D_levels z_D_readLevels z_D_readAsked z_D_asked z_D_readKinds z_D_now D_before z_D_undoMany D_kept z_D_keptMany z_D_refused z_D_roundMany z_D_roundOver z_D_round z_D_terms D_termLevel D_termAdd z_D_spot z_D_number z_D_reach z_D_edge z_D_by) := by
  refine mj_of (own := RX7) (by decide) rfl (Nat.le_of_ble_eq_true rfl) (fun J hJ => ?_)
  show J (W_X7_lay cI cS cII DA D_length D_text D_levels D_readLevels D_readAsked D_asked D_readKinds D_now D_before D_undoMany D_kept D_keptMany D_refused D_roundMany D_roundOver D_round D_terms D_termLevel D_termAdd D_spot D_number D_reach D_edge D_by) 0 [(0, .ref (DA 0))] []
  unfold p_X7_lay at hF
  refine jj_aload_n hJ dX7_lay_0 0 rfl rfl ?_
  obtain ⟨⟨r2, g3, g4, g5, g6, g7, g8⟩, h1, hF⟩ := ob hF
  refine jj_callV hJ (c_X7_readAll l D cI cS cII DA D_length D_text D_levels D_readLevels D_readAsked D_asked D_readKinds D_now D_before D_undoMany D_kept D_keptMany D_refused D_roundMany D_roundOver D_round D_terms D_termLevel D_termAdd D_spot D_number D_reach D_edge D_by  h1) dX7_lay_1 kw_175 ⟨Nat.le_of_ble_eq_true rfl, Nat.le_of_ble_eq_true rfl, rfl, rfl⟩ kw_174 kw_176 kw_177 0 rfl rfl rfl rfl (Nat.le_of_ble_eq_true rfl) [0, 1, 2, 3, 4, 5, 6, 7, 8, 9, 10, 11, 12, 13] rfl rfl (wn := (W_X7_lay cI cS cII DA D_length D_text D_levels g3 g4 g5 g6 D_now D_before D_undoMany D_kept D_keptMany D_refused D_roundMany D_roundOver D_round D_terms D_termLevel D_termAdd g7 g8 D_reach D_edge D_by)) (jNew_sel rfl [some 0, some 1, some 2, some 3, some 4, some 5, some 6, some 7, some 8, some 9, some 10, some 11, some 12, some 13] (by decide +kernel) rfl) ?_
  refine jj_bipush hJ dX7_lay_4 bp_m4 ?_
  refine jj_icmp_ne hJ 16 dX7_lay_6 rfl (fun c9 => ?_) (fun c9 => ?_)
  · replace hF := iq c9 hF
    refine jj_bipush hJ dX7_lay_16 bp_m2 ?_
    cases Option.some.inj hF
    exact jj_iret hJ dX7_lay_18
  · replace hF := ip c9 hF
    refine jj_aload_n hJ dX7_lay_9 0 rfl rfl ?_
    refine jj_get hJ lay_X7 dX7_lay_10 0 3 rfl rfl (Nat.le_of_ble_eq_true rfl) kw_134 rfl ?_
    refine jj_if_ne hJ 19 dX7_lay_13 rfl (fun c10 => ?_) (fun c10 => ?_)
    · replace hF := iq c10 hF
      refine jj_aload_n hJ dX7_lay_19 0 rfl rfl ?_
      obtain ⟨⟨g12, g13, g14, g15, g16, g17, g18, g19, g20, g21, g22, g23⟩, h11, hF⟩ := ob hF
      refine jj_callV hJ (c_X7_begin l D cI cS cII DA D_length D_text D_levels g3 g4 g5 g6 D_now D_before D_undoMany D_kept D_keptMany D_refused D_roundMany D_roundOver D_round D_terms D_termLevel D_termAdd g7 g8 D_reach D_edge D_by  h11) dX7_lay_20 kw_226 ⟨Nat.le_of_ble_eq_true rfl, Nat.le_of_ble_eq_true rfl, rfl, rfl⟩ kw_225 kw_227 kw_228 0 rfl rfl rfl rfl (Nat.le_of_ble_eq_true rfl) [0, 1, 2, 3, 4, 5, 6, 7, 8, 9, 10, 11, 12, 13] rfl rfl (wn := (W_X7_lay cI cS cII DA D_length D_text g12 g3 g4 g5 g6 g13 D_before g14 D_kept g15 g16 g17 g18 g19 g20 D_termLevel D_termAdd g7 g8 g21 g22 g23)) (jNew_sel rfl [some 0, some 1, some 2, some 3, some 4, some 5, some 6, some 7, some 8, some 9, some 10, some 11, some 12, some 13] (by decide +kernel) rfl) ?_
      refine jj_aload_n hJ dX7_lay_23 0 rfl rfl ?_
      refine jj_get hJ lay_X7 dX7_lay_24 0 7 rfl rfl (Nat.le_of_ble_eq_true rfl) kw_178 rfl ?_
      refine jj_bipush hJ dX7_lay_27 bp_10 ?_
      obtain ⟨x24, h25, hF⟩ := ob hF
      refine jj_iald hJ dX7_lay_29 4 0 rfl rfl h25 ?_
      cases Option.some.inj hF
      exact jj_iret hJ dX7_lay_30
    · replace hF := ip c10 hF
      refine jj_bipush hJ dX7_lay_16 bp_m2 ?_
      cases Option.some.inj hF
      exact jj_iret hJ dX7_lay_18
section
def W_X7_isLevel (cI cS cII : ClassId) (DA : Nat → Nat) (D_length : Int32) (D_text : Nat → Int32) (D_levels : Int32) (D_readLevels : Int32) (D_readAsked : Int32) (D_asked : Nat → Int32) (D_readKinds : Nat → Int32) (D_now : Nat → Int32) (D_before : Nat → Int32) (D_undoMany : Int32) (D_kept : Nat → Int32) (D_keptMany : Int32) (D_refused : Int32) (D_roundMany : Int32) (D_roundOver : Int32) (D_round : Nat → Int32) (D_terms : Int32) (D_termLevel : Nat → Int32) (D_termAdd : Nat → Int32) (D_spot : Int32) (D_number : Nat → Int32) (D_reach : Nat → Int32) (D_edge : Nat → Int32) (D_by : Nat → Int32) : va_W := [((DA 0), .inr (7, [.int D_length, .ref (DA 1), .int D_levels, .int D_readLevels, .int D_readAsked, .ref (DA 2), .ref (DA 3), .ref (DA 4), .ref (DA 5), .int D_undoMany, .ref (DA 6), .int D_keptMany, .int D_refused, .int D_roundMany, .int D_roundOver, .ref (DA 7), .int D_terms, .ref (DA 8), .ref (DA 9), .int D_spot, .ref (DA 10), .ref (DA 11), .ref (DA 12), .ref (DA 13)])), ((DA 1), .inl (cI, 200, .inl D_text)), ((DA 2), .inl (cI, 160, .inl D_asked)), ((DA 3), .inl (cI, 10, .inl D_readKinds)), ((DA 4), .inl (cI, 59, .inl D_now)), ((DA 5), .inl (cI, 472, .inl D_before)), ((DA 6), .inl (cI, 118, .inl D_kept)), ((DA 7), .inl (cI, 12, .inl D_round)), ((DA 8), .inl (cI, 6, .inl D_termLevel)), ((DA 9), .inl (cI, 6, .inl D_termAdd)), ((DA 10), .inl (cI, 3, .inl D_number)), ((DA 11), .inl (cI, 100, .inl D_reach)), ((DA 12), .inl (cI, 100, .inl D_edge)), ((DA 13), .inl (cI, 110, .inl D_by))]
abbrev Rm_X7_isLevel : Room := { frames := 1, cells := 0, slots := 0, locals := 25 }
variable {l : Launch} {D : va_G} {cI cS cII : ClassId} {DA : Nat → Nat} {A : Nat → Prop} {J : jT}
variable {z_r : Int32}
def p_X7_isLevel (D_levels : Int32) (a1 : Int32) : Option (Int32) := (p_X7_in ((a1 : Int32).toInt64) 0 ((D_levels - 1 : Int32).toInt64)).bind fun r2 => (bz r2).bind fun _ => some r2
end
set_option maxRecDepth 100000 in
theorem c_X7_isLevel (l : Launch) (D : va_G) (cI cS cII : ClassId) (DA : Nat → Nat) (D_length : Int32) (D_text : Nat → Int32) (D_levels : Int32) (D_readLevels : Int32) (D_readAsked : Int32) (D_asked : Nat → Int32) (D_readKinds : Nat → Int32) (D_now : Nat → Int32) (D_before : Nat → Int32) (D_undoMany : Int32) (D_kept : Nat → Int32) (D_keptMany : Int32) (D_refused : Int32) (D_roundMany : Int32) (D_roundOver : Int32) (D_round : Nat → Int32) (D_terms : Int32) (D_termLevel : Nat → Int32) (D_termAdd : Nat → Int32) (D_spot : Int32) (D_number : Nat → Int32) (D_reach : Nat → Int32) (D_edge : Nat → Int32) (D_by : Nat → Int32) (a1 : Int32) {z_r : Int32} (hF : p_X7_isLevel D_levels a1 = some z_r) : MJ l yX7_isLevel cX7_isLevel 2 (some .boolean) Rm_X7_isLevel D (tysU cI cS cII) [.ref (DA 0), .int a1] (W_X7_isLevel cI cS cII DA D_length D_text D_levels D_readLevels D_readAsked D_asked D_readKinds D_now D_before D_undoMany D_kept D_keptMany D_refused D_roundMany D_roundOver D_round D_terms D_termLevel D_termAdd D_spot D_number D_reach D_edge D_by) (some z_r) (W_X7_isLevel cI cS cII DA D_length D_text D_levels D_readLevels D_readAsked D_asked D_readKinds D_now D_before D_undoMany D_kept D_keptMany D_refused D_roundMany D_roundOver D_round D_terms D_termLevel D_termAdd D_spot D_number D_reach D_edge D_by) := by
  refine mj_of (own := RX7) (by decide) rfl (Nat.le_of_ble_eq_true rfl) (fun J hJ => ?_)
  show J (W_X7_isLevel cI cS cII DA D_length D_text D_levels D_readLevels D_readAsked D_asked D_readKinds D_now D_before D_undoMany D_kept D_keptMany D_refused D_roundMany D_roundOver D_round D_terms D_termLevel D_termAdd D_spot D_number D_reach D_edge D_by) 0 [(0, .ref (DA 0)), (1, .int a1)] []
  unfold p_X7_isLevel at hF
  refine jj_iload_n hJ dX7_isLevel_0 1 rfl rfl ?_
  refine jj_i2l hJ dX7_isLevel_1 ?_
  refine jj_lconst hJ dX7_isLevel_2 lc_0 ?_
  refine jj_aload_n hJ dX7_isLevel_3 0 rfl rfl ?_
  refine jj_get hJ lay_X7 dX7_isLevel_4 0 2 rfl rfl (Nat.le_of_ble_eq_true rfl) kw_186 rfl ?_
  refine jj_iconst hJ dX7_isLevel_7 ic_1 ?_
  refine jj_isub hJ dX7_isLevel_8 ?_
  refine jj_i2l hJ dX7_isLevel_9 ?_
  obtain ⟨r2, h1, hF⟩ := ob hF
  refine jj_callS0 hJ (c_X7_in l D cI cS cII   ((a1 : Int32).toInt64) 0 ((D_levels - 1 : Int32).toInt64) h1) dX7_isLevel_10 kw_140 ⟨Nat.le_of_ble_eq_true rfl, Nat.le_of_ble_eq_true rfl, rfl, rfl⟩ kw_141 kw_142 rfl rfl (Nat.le_of_ble_eq_true rfl) [] rfl rfl ?_
  obtain ⟨_, b3, hF⟩ := ob hF
  cases Option.some.inj hF
  exact jj_zret hJ (bz_some b3) dX7_isLevel_13
section
abbrev Rm_X7_isAdd : Room := { frames := 1, cells := 0, slots := 0, locals := 25 }
variable {l : Launch} {D : va_G} {cI cS cII : ClassId}  {A : Nat → Prop} {J : jT}
variable {z_r : Int32}
def p_X7_isAdd (a0 : Int32) : Option (Int32) := (p_X7_in ((a0 : Int32).toInt64) ((-9)) ((9))).bind fun r2 => (bz r2).bind fun _ => some r2
end
set_option maxRecDepth 100000 in
theorem c_X7_isAdd (l : Launch) (D : va_G) (cI cS cII : ClassId)   (a0 : Int32) {z_r : Int32} (hF : p_X7_isAdd a0 = some z_r) : MJ l yX7_isAdd cX7_isAdd 1 (some .boolean) Rm_X7_isAdd D (tysU cI cS cII) [.int a0] ([] : va_W) (some z_r) ([] : va_W) := by
  refine mj_of (own := RX7) (by decide) rfl (Nat.le_of_ble_eq_true rfl) (fun J hJ => ?_)
  show J ([] : va_W) 0 [(0, .int a0)] []
  unfold p_X7_isAdd at hF
  refine jj_iload_n hJ dX7_isAdd_0 0 rfl rfl ?_
  refine jj_i2l hJ dX7_isAdd_1 ?_
  refine jj_ldc2 hJ dX7_isAdd_2 kw_229 ?_
  refine jj_ldc2 hJ dX7_isAdd_5 kw_230 ?_
  obtain ⟨r2, h1, hF⟩ := ob hF
  refine jj_callS0 hJ (c_X7_in l D cI cS cII   ((a0 : Int32).toInt64) ((-9)) ((9)) h1) dX7_isAdd_8 kw_140 ⟨Nat.le_of_ble_eq_true rfl, Nat.le_of_ble_eq_true rfl, rfl, rfl⟩ kw_141 kw_142 rfl rfl (Nat.le_of_ble_eq_true rfl) [] rfl rfl ?_
  obtain ⟨_, b3, hF⟩ := ob hF
  cases Option.some.inj hF
  exact jj_zret hJ (bz_some b3) dX7_isAdd_11
section
def W_X7_valueOf (cI cS cII : ClassId) (DA : Nat → Nat) (D_length : Int32) (D_text : Nat → Int32) (D_levels : Int32) (D_readLevels : Int32) (D_readAsked : Int32) (D_asked : Nat → Int32) (D_readKinds : Nat → Int32) (D_now : Nat → Int32) (D_before : Nat → Int32) (D_undoMany : Int32) (D_kept : Nat → Int32) (D_keptMany : Int32) (D_refused : Int32) (D_roundMany : Int32) (D_roundOver : Int32) (D_round : Nat → Int32) (D_terms : Int32) (D_termLevel : Nat → Int32) (D_termAdd : Nat → Int32) (D_spot : Int32) (D_number : Nat → Int32) (D_reach : Nat → Int32) (D_edge : Nat → Int32) (D_by : Nat → Int32) : va_W := [((DA 0), .inr (7, [.int D_length, .ref (DA 1), .int D_levels, .int D_readLevels, .int D_readAsked, .ref (DA 2), .ref (DA 3), .ref (DA 4), .ref (DA 5), .int D_undoMany, .ref (DA 6), .int D_keptMany, .int D_refused, .int D_roundMany, .int D_roundOver, .ref (DA 7), .int D_terms, .ref (DA 8), .ref (DA 9), .int D_spot, .ref (DA 10), .ref (DA 11), .ref (DA 12), .ref (DA 13)])), ((DA 1), .inl (cI, 200, .inl D_text)), ((DA 2), .inl (cI, 160, .inl D_asked)), ((DA 3), .inl (cI, 10, .inl D_readKinds)), ((DA 4), .inl (cI, 59, .inl D_now)), ((DA 5), .inl (cI, 472, .inl D_before)), ((DA 6), .inl (cI, 118, .inl D_kept)), ((DA 7), .inl (cI, 12, .inl D_round)), ((DA 8), .inl (cI, 6, .inl D_termLevel)), ((DA 9), .inl (cI, 6, .inl D_termAdd)), ((DA 10), .inl (cI, 3, .inl D_number)), ((DA 11), .inl (cI, 100, .inl D_reach)), ((DA 12), .inl (cI, 100, .inl D_edge)), ((DA 13), .inl (cI, 110, .inl D_by))]
abbrev Rm_X7_valueOf : Room := { frames := 0, cells := 0, slots := 0, locals := 0 }
variable {l : Launch} {D : va_G} {cI cS cII : ClassId} {DA : Nat → Nat} {A : Nat → Prop} {J : jT}
variable {z_r : Int32}
def q_X7_valueOf_4 (D_levels : Int32) (D_reach : Nat → Int32) (a1 : Int32)  : Nat → Int32 → Int32 → Option (Int32)
  | 0, _, _ => none
  | n + 1, v3, v2 => if D_levels ≤ v3 then (some v2) else ((rd D_reach 100 ((10 * v3) + a1)).bind fun x2 => if x2 ≤ v2 then (q_X7_valueOf_4 D_levels D_reach a1 n (v3 + 1) v2) else ((rd D_reach 100 ((10 * v3) + a1)).bind fun x5 => q_X7_valueOf_4 D_levels D_reach a1 n (v3 + 1) x5))
set_option maxRecDepth 100000 in
theorem w_X7_valueOf_4 {D_length : Int32} {D_text : Nat → Int32} {D_levels : Int32} {D_readLevels : Int32} {D_readAsked : Int32} {D_asked : Nat → Int32} {D_readKinds : Nat → Int32} {D_now : Nat → Int32} {D_before : Nat → Int32} {D_undoMany : Int32} {D_kept : Nat → Int32} {D_keptMany : Int32} {D_refused : Int32} {D_roundMany : Int32} {D_roundOver : Int32} {D_round : Nat → Int32} {D_terms : Int32} {D_termLevel : Nat → Int32} {D_termAdd : Nat → Int32} {D_spot : Int32} {D_number : Nat → Int32} {D_reach : Nat → Int32} {D_edge : Nat → Int32} {D_by : Nat → Int32} {a1 : Int32}  (hJ : jJ l cX7_valueOf 4 D (tysU cI cS cII) RX7 Rm_X7_valueOf (some .int) A (some z_r) (W_X7_valueOf cI cS cII DA D_length D_text D_levels D_readLevels D_readAsked D_asked D_readKinds D_now D_before D_undoMany D_kept D_keptMany D_refused D_roundMany D_roundOver D_round D_terms D_termLevel D_termAdd D_spot D_number D_reach D_edge D_by) J)  : ∀ (n : Nat) (v3 : Int32) (v2 : Int32), q_X7_valueOf_4 D_levels D_reach a1 n v3 v2 = some z_r → J (W_X7_valueOf cI cS cII DA D_length D_text D_levels D_readLevels D_readAsked D_asked D_readKinds D_now D_before D_undoMany D_kept D_keptMany D_refused D_roundMany D_roundOver D_round D_terms D_termLevel D_termAdd D_spot D_number D_reach D_edge D_by) 4 [(3, .int v3), (2, .int v2), (0, .ref (DA 0)), (1, .int a1)] [] := by
  intro n
  induction n with
  | zero =>
    intro v3 v2 hF
    exact no_some (show (none : Option (Int32)) = some z_r from hF)
  | succ n ih =>
    intro v3 v2 hF
    rw [q_X7_valueOf_4.eq_2] at hF
    refine jj_iload_n hJ dX7_valueOf_4 0 rfl rfl ?_
    refine jj_aload_n hJ dX7_valueOf_5 2 rfl rfl ?_
    refine jj_get hJ lay_X7 dX7_valueOf_6 0 2 rfl rfl (Nat.le_of_ble_eq_true rfl) kw_186 rfl ?_
    refine jj_icmp_ge hJ 49 dX7_valueOf_9 rfl (fun c1 => ?_) (fun c1 => ?_)
    · replace hF := ip c1 hF
      refine jj_iload_n hJ dX7_valueOf_49 1 rfl rfl ?_
      cases Option.some.inj hF
      exact jj_iret hJ dX7_valueOf_50
    · replace hF := iq c1 hF
      refine jj_aload_n hJ dX7_valueOf_12 2 rfl rfl ?_
      refine jj_get hJ lay_X7 dX7_valueOf_13 0 21 rfl rfl (Nat.le_of_ble_eq_true rfl) kw_185 rfl ?_
      refine jj_bipush hJ dX7_valueOf_16 bp_10 ?_
      refine jj_iload_n hJ dX7_valueOf_18 0 rfl rfl ?_
      refine jj_imul hJ dX7_valueOf_19 ?_
      refine jj_iload_n hJ dX7_valueOf_20 3 rfl rfl ?_
      refine jj_iadd hJ dX7_valueOf_21 ?_
      obtain ⟨x2, h3, hF⟩ := ob hF
      refine jj_iald hJ dX7_valueOf_22 11 0 rfl rfl h3 ?_
      refine jj_iload_n hJ dX7_valueOf_23 1 rfl rfl ?_
      refine jj_icmp_le hJ 41 dX7_valueOf_24 rfl (fun c4 => ?_) (fun c4 => ?_)
      · replace hF := ip c4 hF
        refine jj_iload_n hJ dX7_valueOf_41 1 rfl rfl ?_
        refine jj_istore_n hJ dX7_valueOf_42 rfl (Nat.le_of_ble_eq_true rfl) (lv' := [(2, .int v2), (3, .int v3), (0, .ref (DA 0)), (1, .int a1)]) rfl ?_
        refine jj_iinc hJ dX7_valueOf_43 1 rfl (v := v3 + 1) (by rw [ic_1]) (Nat.le_of_ble_eq_true rfl) (lv' := [(3, .int (v3 + 1)), (2, .int v2), (0, .ref (DA 0)), (1, .int a1)]) rfl ?_
        refine jj_goto hJ 4 dX7_valueOf_46 rfl ?_
        exact ih (v3 + 1) v2 hF
      · replace hF := iq c4 hF
        refine jj_aload_n hJ dX7_valueOf_27 2 rfl rfl ?_
        refine jj_get hJ lay_X7 dX7_valueOf_28 0 21 rfl rfl (Nat.le_of_ble_eq_true rfl) kw_185 rfl ?_
        refine jj_bipush hJ dX7_valueOf_31 bp_10 ?_
        refine jj_iload_n hJ dX7_valueOf_33 0 rfl rfl ?_
        refine jj_imul hJ dX7_valueOf_34 ?_
        refine jj_iload_n hJ dX7_valueOf_35 3 rfl rfl ?_
        refine jj_iadd hJ dX7_valueOf_36 ?_
        obtain ⟨x5, h6, hF⟩ := ob hF
        refine jj_iald hJ dX7_valueOf_37 11 0 rfl rfl h6 ?_
        refine jj_goto hJ 42 dX7_valueOf_38 rfl ?_
        refine jj_istore_n hJ dX7_valueOf_42 rfl (Nat.le_of_ble_eq_true rfl) (lv' := [(2, .int x5), (3, .int v3), (0, .ref (DA 0)), (1, .int a1)]) rfl ?_
        refine jj_iinc hJ dX7_valueOf_43 1 rfl (v := v3 + 1) (by rw [ic_1]) (Nat.le_of_ble_eq_true rfl) (lv' := [(3, .int (v3 + 1)), (2, .int x5), (0, .ref (DA 0)), (1, .int a1)]) rfl ?_
        refine jj_goto hJ 4 dX7_valueOf_46 rfl ?_
        exact ih (v3 + 1) x5 hF
def p_X7_valueOf (D_levels : Int32) (D_reach : Nat → Int32) (a1 : Int32) : Option (Int32) := q_X7_valueOf_4 D_levels D_reach a1 FU 0 0
end
set_option maxRecDepth 100000 in
theorem c_X7_valueOf (l : Launch) (D : va_G) (cI cS cII : ClassId) (DA : Nat → Nat) (D_length : Int32) (D_text : Nat → Int32) (D_levels : Int32) (D_readLevels : Int32) (D_readAsked : Int32) (D_asked : Nat → Int32) (D_readKinds : Nat → Int32) (D_now : Nat → Int32) (D_before : Nat → Int32) (D_undoMany : Int32) (D_kept : Nat → Int32) (D_keptMany : Int32) (D_refused : Int32) (D_roundMany : Int32) (D_roundOver : Int32) (D_round : Nat → Int32) (D_terms : Int32) (D_termLevel : Nat → Int32) (D_termAdd : Nat → Int32) (D_spot : Int32) (D_number : Nat → Int32) (D_reach : Nat → Int32) (D_edge : Nat → Int32) (D_by : Nat → Int32) (a1 : Int32) {z_r : Int32} (hF : p_X7_valueOf D_levels D_reach a1 = some z_r) : MJ l yX7_valueOf cX7_valueOf 4 (some .int) Rm_X7_valueOf D (tysU cI cS cII) [.ref (DA 0), .int a1] (W_X7_valueOf cI cS cII DA D_length D_text D_levels D_readLevels D_readAsked D_asked D_readKinds D_now D_before D_undoMany D_kept D_keptMany D_refused D_roundMany D_roundOver D_round D_terms D_termLevel D_termAdd D_spot D_number D_reach D_edge D_by) (some z_r) (W_X7_valueOf cI cS cII DA D_length D_text D_levels D_readLevels D_readAsked D_asked D_readKinds D_now D_before D_undoMany D_kept D_keptMany D_refused D_roundMany D_roundOver D_round D_terms D_termLevel D_termAdd D_spot D_number D_reach D_edge D_by) := by
  refine mj_of (own := RX7) (by decide) rfl (Nat.le_of_ble_eq_true rfl) (fun J hJ => ?_)
  show J (W_X7_valueOf cI cS cII DA D_length D_text D_levels D_readLevels D_readAsked D_asked D_readKinds D_now D_before D_undoMany D_kept D_keptMany D_refused D_roundMany D_roundOver D_round D_terms D_termLevel D_termAdd D_spot D_number D_reach D_edge D_by) 0 [(0, .ref (DA 0)), (1, .int a1)] []
  unfold p_X7_valueOf at hF
  refine jj_iconst hJ dX7_valueOf_0 ic_0 ?_
  refine jj_istore_n hJ dX7_valueOf_1 rfl (Nat.le_of_ble_eq_true rfl) (lv' := [(2, .int 0), (0, .ref (DA 0)), (1, .int a1)]) rfl ?_
  refine jj_iconst hJ dX7_valueOf_2 ic_0 ?_
  refine jj_istore_n hJ dX7_valueOf_3 rfl (Nat.le_of_ble_eq_true rfl) (lv' := [(3, .int 0), (2, .int 0), (0, .ref (DA 0)), (1, .int a1)]) rfl ?_
  exact w_X7_valueOf_4 hJ  FU 0 0 hF
section
def W_X7_areSame (cI cS cII : ClassId) (DA : Nat → Nat) (D_length : Int32) (D_text : Nat → Int32) (D_levels : Int32) (D_readLevels : Int32) (D_readAsked : Int32) (D_asked : Nat → Int32) (D_readKinds : Nat → Int32) (D_now : Nat → Int32) (D_before : Nat → Int32) (D_undoMany : Int32) (D_kept : Nat → Int32) (D_keptMany : Int32) (D_refused : Int32) (D_roundMany : Int32) (D_roundOver : Int32) (D_round : Nat → Int32) (D_terms : Int32) (D_termLevel : Nat → Int32) (D_termAdd : Nat → Int32) (D_spot : Int32) (D_number : Nat → Int32) (D_reach : Nat → Int32) (D_edge : Nat → Int32) (D_by : Nat → Int32) : va_W := [((DA 0), .inr (7, [.int D_length, .ref (DA 1), .int D_levels, .int D_readLevels, .int D_readAsked, .ref (DA 2), .ref (DA 3), .ref (DA 4), .ref (DA 5), .int D_undoMany, .ref (DA 6), .int D_keptMany, .int D_refused, .int D_roundMany, .int D_roundOver, .ref (DA 7), .int D_terms, .ref (DA 8), .ref (DA 9), .int D_spot, .ref (DA 10), .ref (DA 11), .ref (DA 12), .ref (DA 13)])), ((DA 1), .inl (cI, 200, .inl D_text)), ((DA 2), .inl (cI, 160, .inl D_asked)), ((DA 3), .inl (cI, 10, .inl D_readKinds)), ((DA 4), .inl (cI, 59, .inl D_now)), ((DA 5), .inl (cI, 472, .inl D_before)), ((DA 6), .inl (cI, 118, .inl D_kept)), ((DA 7), .inl (cI, 12, .inl D_round)), ((DA 8), .inl (cI, 6, .inl D_termLevel)), ((DA 9), .inl (cI, 6, .inl D_termAdd)), ((DA 10), .inl (cI, 3, .inl D_number)), ((DA 11), .inl (cI, 100, .inl D_reach)), ((DA 12), .inl (cI, 100, .inl D_edge)), ((DA 13), .inl (cI, 110, .inl D_by))]
abbrev Rm_X7_areSame : Room := { frames := 0, cells := 0, slots := 0, locals := 0 }
variable {l : Launch} {D : va_G} {cI cS cII : ClassId} {DA : Nat → Nat} {A : Nat → Prop} {J : jT}
variable {z_r : Int32}
def p_X7_areSame (D_reach : Nat → Int32) (a1 : Int32) (a2 : Int32) : Option (Int32) := (rd D_reach 100 ((10 * a1) + a2)).bind fun x1 => if x1 = 0 then ((rd D_reach 100 ((10 * a2) + a1)).bind fun x4 => if x4 = 0 then (some 1) else (some 0)) else (some 0)
end
set_option maxRecDepth 100000 in
theorem c_X7_areSame (l : Launch) (D : va_G) (cI cS cII : ClassId) (DA : Nat → Nat) (D_length : Int32) (D_text : Nat → Int32) (D_levels : Int32) (D_readLevels : Int32) (D_readAsked : Int32) (D_asked : Nat → Int32) (D_readKinds : Nat → Int32) (D_now : Nat → Int32) (D_before : Nat → Int32) (D_undoMany : Int32) (D_kept : Nat → Int32) (D_keptMany : Int32) (D_refused : Int32) (D_roundMany : Int32) (D_roundOver : Int32) (D_round : Nat → Int32) (D_terms : Int32) (D_termLevel : Nat → Int32) (D_termAdd : Nat → Int32) (D_spot : Int32) (D_number : Nat → Int32) (D_reach : Nat → Int32) (D_edge : Nat → Int32) (D_by : Nat → Int32) (a1 : Int32) (a2 : Int32) {z_r : Int32} (hF : p_X7_areSame D_reach a1 a2 = some z_r) : MJ l yX7_areSame cX7_areSame 3 (some .boolean) Rm_X7_areSame D (tysU cI cS cII) [.ref (DA 0), .int a1, .int a2] (W_X7_areSame cI cS cII DA D_length D_text D_levels D_readLevels D_readAsked D_asked D_readKinds D_now D_before D_undoMany D_kept D_keptMany D_refused D_roundMany D_roundOver D_round D_terms D_termLevel D_termAdd D_spot D_number D_reach D_edge D_by) (some z_r) (W_X7_areSame cI cS cII DA D_length D_text D_levels D_readLevels D_readAsked D_asked D_readKinds D_now D_before D_undoMany D_kept D_keptMany D_refused D_roundMany D_roundOver D_round D_terms D_termLevel D_termAdd D_spot D_number D_reach D_edge D_by) := by
  refine mj_of (own := RX7) (by decide) rfl (Nat.le_of_ble_eq_true rfl) (fun J hJ => ?_)
  show J (W_X7_areSame cI cS cII DA D_length D_text D_levels D_readLevels D_readAsked D_asked D_readKinds D_now D_before D_undoMany D_kept D_keptMany D_refused D_roundMany D_roundOver D_round D_terms D_termLevel D_termAdd D_spot D_number D_reach D_edge D_by) 0 [(0, .ref (DA 0)), (1, .int a1), (2, .int a2)] []
  unfold p_X7_areSame at hF
  refine jj_aload_n hJ dX7_areSame_0 0 rfl rfl ?_
  refine jj_get hJ lay_X7 dX7_areSame_1 0 21 rfl rfl (Nat.le_of_ble_eq_true rfl) kw_185 rfl ?_
  refine jj_bipush hJ dX7_areSame_4 bp_10 ?_
  refine jj_iload_n hJ dX7_areSame_6 1 rfl rfl ?_
  refine jj_imul hJ dX7_areSame_7 ?_
  refine jj_iload_n hJ dX7_areSame_8 2 rfl rfl ?_
  refine jj_iadd hJ dX7_areSame_9 ?_
  obtain ⟨x1, h2, hF⟩ := ob hF
  refine jj_iald hJ dX7_areSame_10 11 0 rfl rfl h2 ?_
  refine jj_if_ne hJ 32 dX7_areSame_11 rfl (fun c3 => ?_) (fun c3 => ?_)
  · replace hF := iq c3 hF
    refine jj_iconst hJ dX7_areSame_32 ic_0 ?_
    cases Option.some.inj hF
    exact jj_zret hJ (Or.inl rfl) dX7_areSame_33
  · replace hF := ip c3 hF
    refine jj_aload_n hJ dX7_areSame_14 0 rfl rfl ?_
    refine jj_get hJ lay_X7 dX7_areSame_15 0 21 rfl rfl (Nat.le_of_ble_eq_true rfl) kw_185 rfl ?_
    refine jj_bipush hJ dX7_areSame_18 bp_10 ?_
    refine jj_iload_n hJ dX7_areSame_20 2 rfl rfl ?_
    refine jj_imul hJ dX7_areSame_21 ?_
    refine jj_iload_n hJ dX7_areSame_22 1 rfl rfl ?_
    refine jj_iadd hJ dX7_areSame_23 ?_
    obtain ⟨x4, h5, hF⟩ := ob hF
    refine jj_iald hJ dX7_areSame_24 11 0 rfl rfl h5 ?_
    refine jj_if_ne hJ 32 dX7_areSame_25 rfl (fun c6 => ?_) (fun c6 => ?_)
    · replace hF := iq c6 hF
      refine jj_iconst hJ dX7_areSame_32 ic_0 ?_
      cases Option.some.inj hF
      exact jj_zret hJ (Or.inl rfl) dX7_areSame_33
    · replace hF := ip c6 hF
      refine jj_iconst hJ dX7_areSame_28 ic_1 ?_
      refine jj_goto hJ 33 dX7_areSame_29 rfl ?_
      cases Option.some.inj hF
      exact jj_zret hJ (Or.inr rfl) dX7_areSame_33
section
def W_X7_isFloating (cI cS cII : ClassId) (DA : Nat → Nat) (D_length : Int32) (D_text : Nat → Int32) (D_levels : Int32) (D_readLevels : Int32) (D_readAsked : Int32) (D_asked : Nat → Int32) (D_readKinds : Nat → Int32) (D_now : Nat → Int32) (D_before : Nat → Int32) (D_undoMany : Int32) (D_kept : Nat → Int32) (D_keptMany : Int32) (D_refused : Int32) (D_roundMany : Int32) (D_roundOver : Int32) (D_round : Nat → Int32) (D_terms : Int32) (D_termLevel : Nat → Int32) (D_termAdd : Nat → Int32) (D_spot : Int32) (D_number : Nat → Int32) (D_reach : Nat → Int32) (D_edge : Nat → Int32) (D_by : Nat → Int32) : va_W := [((DA 0), .inr (7, [.int D_length, .ref (DA 1), .int D_levels, .int D_readLevels, .int D_readAsked, .ref (DA 2), .ref (DA 3), .ref (DA 4), .ref (DA 5), .int D_undoMany, .ref (DA 6), .int D_keptMany, .int D_refused, .int D_roundMany, .int D_roundOver, .ref (DA 7), .int D_terms, .ref (DA 8), .ref (DA 9), .int D_spot, .ref (DA 10), .ref (DA 11), .ref (DA 12), .ref (DA 13)])), ((DA 1), .inl (cI, 200, .inl D_text)), ((DA 2), .inl (cI, 160, .inl D_asked)), ((DA 3), .inl (cI, 10, .inl D_readKinds)), ((DA 4), .inl (cI, 59, .inl D_now)), ((DA 5), .inl (cI, 472, .inl D_before)), ((DA 6), .inl (cI, 118, .inl D_kept)), ((DA 7), .inl (cI, 12, .inl D_round)), ((DA 8), .inl (cI, 6, .inl D_termLevel)), ((DA 9), .inl (cI, 6, .inl D_termAdd)), ((DA 10), .inl (cI, 3, .inl D_number)), ((DA 11), .inl (cI, 100, .inl D_reach)), ((DA 12), .inl (cI, 100, .inl D_edge)), ((DA 13), .inl (cI, 110, .inl D_by))]
abbrev Rm_X7_isFloating : Room := { frames := 0, cells := 0, slots := 0, locals := 0 }
variable {l : Launch} {D : va_G} {cI cS cII : ClassId} {DA : Nat → Nat} {A : Nat → Prop} {J : jT}
variable {z_r : Int32}
def p_X7_isFloating (D_now : Nat → Int32) (a1 : Int32) : Option (Int32) := (rd D_now 59 a1).bind fun x1 => if x1 = 1 then (some 1) else ((rd D_now 59 a1).bind fun x4 => if x4 = 3 then (some 1) else (some 0))
end
set_option maxRecDepth 100000 in
theorem c_X7_isFloating (l : Launch) (D : va_G) (cI cS cII : ClassId) (DA : Nat → Nat) (D_length : Int32) (D_text : Nat → Int32) (D_levels : Int32) (D_readLevels : Int32) (D_readAsked : Int32) (D_asked : Nat → Int32) (D_readKinds : Nat → Int32) (D_now : Nat → Int32) (D_before : Nat → Int32) (D_undoMany : Int32) (D_kept : Nat → Int32) (D_keptMany : Int32) (D_refused : Int32) (D_roundMany : Int32) (D_roundOver : Int32) (D_round : Nat → Int32) (D_terms : Int32) (D_termLevel : Nat → Int32) (D_termAdd : Nat → Int32) (D_spot : Int32) (D_number : Nat → Int32) (D_reach : Nat → Int32) (D_edge : Nat → Int32) (D_by : Nat → Int32) (a1 : Int32) {z_r : Int32} (hF : p_X7_isFloating D_now a1 = some z_r) : MJ l yX7_isFloating cX7_isFloating 2 (some .boolean) Rm_X7_isFloating D (tysU cI cS cII) [.ref (DA 0), .int a1] (W_X7_isFloating cI cS cII DA D_length D_text D_levels D_readLevels D_readAsked D_asked D_readKinds D_now D_before D_undoMany D_kept D_keptMany D_refused D_roundMany D_roundOver D_round D_terms D_termLevel D_termAdd D_spot D_number D_reach D_edge D_by) (some z_r) (W_X7_isFloating cI cS cII DA D_length D_text D_levels D_readLevels D_readAsked D_asked D_readKinds D_now D_before D_undoMany D_kept D_keptMany D_refused D_roundMany D_roundOver D_round D_terms D_termLevel D_termAdd D_spot D_number D_reach D_edge D_by) := by
  refine mj_of (own := RX7) (by decide) rfl (Nat.le_of_ble_eq_true rfl) (fun J hJ => ?_)
  show J (W_X7_isFloating cI cS cII DA D_length D_text D_levels D_readLevels D_readAsked D_asked D_readKinds D_now D_before D_undoMany D_kept D_keptMany D_refused D_roundMany D_roundOver D_round D_terms D_termLevel D_termAdd D_spot D_number D_reach D_edge D_by) 0 [(0, .ref (DA 0)), (1, .int a1)] []
  unfold p_X7_isFloating at hF
  refine jj_aload_n hJ dX7_isFloating_0 0 rfl rfl ?_
  refine jj_get hJ lay_X7 dX7_isFloating_1 0 7 rfl rfl (Nat.le_of_ble_eq_true rfl) kw_178 rfl ?_
  refine jj_iload_n hJ dX7_isFloating_4 1 rfl rfl ?_
  obtain ⟨x1, h2, hF⟩ := ob hF
  refine jj_iald hJ dX7_isFloating_5 4 0 rfl rfl h2 ?_
  refine jj_iconst hJ dX7_isFloating_6 ic_1 ?_
  refine jj_icmp_eq hJ 20 dX7_isFloating_7 rfl (fun c3 => ?_) (fun c3 => ?_)
  · replace hF := ip c3 hF
    refine jj_iconst hJ dX7_isFloating_20 ic_1 ?_
    refine jj_goto hJ 25 dX7_isFloating_21 rfl ?_
    cases Option.some.inj hF
    exact jj_zret hJ (Or.inr rfl) dX7_isFloating_25
  · replace hF := iq c3 hF
    refine jj_aload_n hJ dX7_isFloating_10 0 rfl rfl ?_
    refine jj_get hJ lay_X7 dX7_isFloating_11 0 7 rfl rfl (Nat.le_of_ble_eq_true rfl) kw_178 rfl ?_
    refine jj_iload_n hJ dX7_isFloating_14 1 rfl rfl ?_
    obtain ⟨x4, h5, hF⟩ := ob hF
    refine jj_iald hJ dX7_isFloating_15 4 0 rfl rfl h5 ?_
    refine jj_iconst hJ dX7_isFloating_16 ic_3 ?_
    refine jj_icmp_ne hJ 24 dX7_isFloating_17 rfl (fun c6 => ?_) (fun c6 => ?_)
    · replace hF := iq c6 hF
      refine jj_iconst hJ dX7_isFloating_24 ic_0 ?_
      cases Option.some.inj hF
      exact jj_zret hJ (Or.inl rfl) dX7_isFloating_25
    · replace hF := ip c6 hF
      refine jj_iconst hJ dX7_isFloating_20 ic_1 ?_
      refine jj_goto hJ 25 dX7_isFloating_21 rfl ?_
      cases Option.some.inj hF
      exact jj_zret hJ (Or.inr rfl) dX7_isFloating_25
section
def W_X7_level (cI cS cII : ClassId) (DA : Nat → Nat) (D_length : Int32) (D_text : Nat → Int32) (D_levels : Int32) (D_readLevels : Int32) (D_readAsked : Int32) (D_asked : Nat → Int32) (D_readKinds : Nat → Int32) (D_now : Nat → Int32) (D_before : Nat → Int32) (D_undoMany : Int32) (D_kept : Nat → Int32) (D_keptMany : Int32) (D_refused : Int32) (D_roundMany : Int32) (D_roundOver : Int32) (D_round : Nat → Int32) (D_terms : Int32) (D_termLevel : Nat → Int32) (D_termAdd : Nat → Int32) (D_spot : Int32) (D_number : Nat → Int32) (D_reach : Nat → Int32) (D_edge : Nat → Int32) (D_by : Nat → Int32) : va_W := [((DA 0), .inr (7, [.int D_length, .ref (DA 1), .int D_levels, .int D_readLevels, .int D_readAsked, .ref (DA 2), .ref (DA 3), .ref (DA 4), .ref (DA 5), .int D_undoMany, .ref (DA 6), .int D_keptMany, .int D_refused, .int D_roundMany, .int D_roundOver, .ref (DA 7), .int D_terms, .ref (DA 8), .ref (DA 9), .int D_spot, .ref (DA 10), .ref (DA 11), .ref (DA 12), .ref (DA 13)])), ((DA 1), .inl (cI, 200, .inl D_text)), ((DA 2), .inl (cI, 160, .inl D_asked)), ((DA 3), .inl (cI, 10, .inl D_readKinds)), ((DA 4), .inl (cI, 59, .inl D_now)), ((DA 5), .inl (cI, 472, .inl D_before)), ((DA 6), .inl (cI, 118, .inl D_kept)), ((DA 7), .inl (cI, 12, .inl D_round)), ((DA 8), .inl (cI, 6, .inl D_termLevel)), ((DA 9), .inl (cI, 6, .inl D_termAdd)), ((DA 10), .inl (cI, 3, .inl D_number)), ((DA 11), .inl (cI, 100, .inl D_reach)), ((DA 12), .inl (cI, 100, .inl D_edge)), ((DA 13), .inl (cI, 110, .inl D_by))]
abbrev Rm_X7_level : Room := { frames := 3, cells := 0, slots := 0, locals := 67 }
variable {l : Launch} {D : va_G} {cI cS cII : ClassId} {DA : Nat → Nat} {A : Nat → Prop} {J : jT}
variable {z_r : Int32} {z_D_reach : Nat → Int32} {z_D_edge : Nat → Int32}
def q_X7_level_118 (D_levels : Int32) (D_now : Nat → Int32) (a1 : Int32) (a2 : Int32) (k74 : Int32 → Int32 → (Nat → Int32) → (Nat → Int32) → Option (Int32 × (Nat → Int32) × (Nat → Int32))) (v4 : Int32) (s0 : Int32) (D_reach : Nat → Int32) (D_edge : Nat → Int32) : Option (Int32 × (Nat → Int32) × (Nat → Int32)) := k74 (v4 + 1) (s0 + 1) D_reach D_edge
set_option maxRecDepth 100000 in
theorem w_X7_level_118 {D_length : Int32} {D_text : Nat → Int32} {D_levels : Int32} {D_readLevels : Int32} {D_readAsked : Int32} {D_asked : Nat → Int32} {D_readKinds : Nat → Int32} {D_now : Nat → Int32} {D_before : Nat → Int32} {D_undoMany : Int32} {D_kept : Nat → Int32} {D_keptMany : Int32} {D_refused : Int32} {D_roundMany : Int32} {D_roundOver : Int32} {D_round : Nat → Int32} {D_terms : Int32} {D_termLevel : Nat → Int32} {D_termAdd : Nat → Int32} {D_spot : Int32} {D_number : Nat → Int32} {D_by : Nat → Int32} {a1 : Int32} {a2 : Int32} {k74 : Int32 → Int32 → (Nat → Int32) → (Nat → Int32) → Option (Int32 × (Nat → Int32) × (Nat → Int32))} (hJ : jJ l cX7_level 6 D (tysU cI cS cII) RX7 Rm_X7_level (some .int) A (some z_r) (W_X7_level cI cS cII DA D_length D_text D_levels D_readLevels D_readAsked D_asked D_readKinds D_now D_before D_undoMany D_kept D_keptMany D_refused D_roundMany D_roundOver D_round D_terms D_termLevel D_termAdd D_spot D_number z_D_reach z_D_edge D_by) J) (hk74 : ∀ (v4 : Int32) (v3 : Int32) (D_reach : Nat → Int32) (D_edge : Nat → Int32), k74 v4 v3 D_reach D_edge = some (z_r, z_D_reach, z_D_edge) → J (W_X7_level cI cS cII DA D_length D_text D_levels D_readLevels D_readAsked D_asked D_readKinds D_now D_before D_undoMany D_kept D_keptMany D_refused D_roundMany D_roundOver D_round D_terms D_termLevel D_termAdd D_spot D_number D_reach D_edge D_by) 74 [(4, .int v4), (3, .int v3), (0, .ref (DA 0)), (1, .int a1)] []) : ∀ (v4 : Int32) (s0 : Int32) (D_reach : Nat → Int32) (D_edge : Nat → Int32), q_X7_level_118 D_levels D_now a1 a2 k74 v4 s0 D_reach D_edge = some (z_r, z_D_reach, z_D_edge) → J (W_X7_level cI cS cII DA D_length D_text D_levels D_readLevels D_readAsked D_asked D_readKinds D_now D_before D_undoMany D_kept D_keptMany D_refused D_roundMany D_roundOver D_round D_terms D_termLevel D_termAdd D_spot D_number D_reach D_edge D_by) 118 [(4, .int v4), (0, .ref (DA 0)), (1, .int a1)] [.int s0] := by
  intro v4 s0 D_reach D_edge hF
  unfold q_X7_level_118 at hF
  refine jj_iconst hJ dX7_level_118 ic_1 ?_
  refine jj_goto hJ 123 dX7_level_119 rfl ?_
  refine jj_iadd hJ dX7_level_123 ?_
  refine jj_istore_n hJ dX7_level_124 rfl (Nat.le_of_ble_eq_true rfl) (lv' := [(3, .int (s0 + 1)), (4, .int v4), (0, .ref (DA 0)), (1, .int a1)]) rfl ?_
  refine jj_iinc hJ dX7_level_125 1 rfl (v := v4 + 1) (by rw [ic_1]) (Nat.le_of_ble_eq_true rfl) (lv' := [(4, .int (v4 + 1)), (3, .int (s0 + 1)), (0, .ref (DA 0)), (1, .int a1)]) rfl ?_
  refine jj_goto hJ 74 dX7_level_128 rfl ?_
  exact hk74 (v4 + 1) (s0 + 1) D_reach D_edge hF
def q_X7_level_74 (D_levels : Int32) (D_now : Nat → Int32) (a1 : Int32) (a2 : Int32)  : Nat → Int32 → Int32 → (Nat → Int32) → (Nat → Int32) → Option (Int32 × (Nat → Int32) × (Nat → Int32))
  | 0, _, _, _, _ => none
  | n + 1, v4, v3, D_reach, D_edge => if D_levels ≤ v4 then (some (v3, D_reach, D_edge)) else ((p_X7_valueOf D_levels D_reach v4).bind fun r3 => (p_X7_valueOf D_levels D_reach a1).bind fun r5 => if r3 < r5 then (q_X7_level_118 D_levels D_now a1 a2 (q_X7_level_74 D_levels D_now a1 a2 n) v4 v3 D_reach D_edge) else ((p_X7_valueOf D_levels D_reach v4).bind fun r8 => (p_X7_valueOf D_levels D_reach a1).bind fun r10 => if r8 = r10 then (if a1 ≤ v4 then (q_X7_level_74 D_levels D_now a1 a2 n (v4 + 1) (v3 + 0) D_reach D_edge) else (q_X7_level_118 D_levels D_now a1 a2 (q_X7_level_74 D_levels D_now a1 a2 n) v4 v3 D_reach D_edge)) else (q_X7_level_74 D_levels D_now a1 a2 n (v4 + 1) (v3 + 0) D_reach D_edge)))
set_option maxRecDepth 100000 in
theorem w_X7_level_74 {D_length : Int32} {D_text : Nat → Int32} {D_levels : Int32} {D_readLevels : Int32} {D_readAsked : Int32} {D_asked : Nat → Int32} {D_readKinds : Nat → Int32} {D_now : Nat → Int32} {D_before : Nat → Int32} {D_undoMany : Int32} {D_kept : Nat → Int32} {D_keptMany : Int32} {D_refused : Int32} {D_roundMany : Int32} {D_roundOver : Int32} {D_round : Nat → Int32} {D_terms : Int32} {D_termLevel : Nat → Int32} {D_termAdd : Nat → Int32} {D_spot : Int32} {D_number : Nat → Int32} {D_by : Nat → Int32} {a1 : Int32} {a2 : Int32}  (hJ : jJ l cX7_level 6 D (tysU cI cS cII) RX7 Rm_X7_level (some .int) A (some z_r) (W_X7_level cI cS cII DA D_length D_text D_levels D_readLevels D_readAsked D_asked D_readKinds D_now D_before D_undoMany D_kept D_keptMany D_refused D_roundMany D_roundOver D_round D_terms D_termLevel D_termAdd D_spot D_number z_D_reach z_D_edge D_by) J)  : ∀ (n : Nat) (v4 : Int32) (v3 : Int32) (D_reach : Nat → Int32) (D_edge : Nat → Int32), q_X7_level_74 D_levels D_now a1 a2 n v4 v3 D_reach D_edge = some (z_r, z_D_reach, z_D_edge) → J (W_X7_level cI cS cII DA D_length D_text D_levels D_readLevels D_readAsked D_asked D_readKinds D_now D_before D_undoMany D_kept D_keptMany D_refused D_roundMany D_roundOver D_round D_terms D_termLevel D_termAdd D_spot D_number D_reach D_edge D_by) 74 [(4, .int v4), (3, .int v3), (0, .ref (DA 0)), (1, .int a1)] [] := by
  intro n
  induction n with
  | zero =>
    intro v4 v3 D_reach D_edge hF
    exact no_some (show (none : Option (Int32 × (Nat → Int32) × (Nat → Int32))) = some (z_r, z_D_reach, z_D_edge) from hF)
  | succ n ih =>
    intro v4 v3 D_reach D_edge hF
    rw [q_X7_level_74.eq_2] at hF
    refine jj_iload hJ dX7_level_74 0 rfl ?_
    refine jj_aload_n hJ dX7_level_76 2 rfl rfl ?_
    refine jj_get hJ lay_X7 dX7_level_77 0 2 rfl rfl (Nat.le_of_ble_eq_true rfl) kw_186 rfl ?_
    refine jj_icmp_ge hJ 131 dX7_level_80 rfl (fun c1 => ?_) (fun c1 => ?_)
    · replace hF := ip c1 hF
      refine jj_iload_n hJ dX7_level_131 1 rfl rfl ?_
      cases Option.some.inj hF
      exact jj_iret hJ dX7_level_132
    · replace hF := iq c1 hF
      refine jj_iload_n hJ dX7_level_83 1 rfl rfl ?_
      refine jj_aload_n hJ dX7_level_84 2 rfl rfl ?_
      refine jj_iload hJ dX7_level_85 0 rfl ?_
      obtain ⟨r3, h2, hF⟩ := ob hF
      refine jj_callV0 hJ (c_X7_valueOf l D cI cS cII DA D_length D_text D_levels D_readLevels D_readAsked D_asked D_readKinds D_now D_before D_undoMany D_kept D_keptMany D_refused D_roundMany D_roundOver D_round D_terms D_termLevel D_termAdd D_spot D_number D_reach D_edge D_by v4 h2) dX7_level_87 kw_237 ⟨Nat.le_of_ble_eq_true rfl, Nat.le_of_ble_eq_true rfl, rfl, rfl⟩ kw_236 kw_238 kw_239 0 rfl rfl rfl rfl (Nat.le_of_ble_eq_true rfl) [0, 1, 2, 3, 4, 5, 6, 7, 8, 9, 10, 11, 12, 13] rfl rfl ?_
      refine jj_aload_n hJ dX7_level_90 2 rfl rfl ?_
      refine jj_iload_n hJ dX7_level_91 3 rfl rfl ?_
      obtain ⟨r5, h4, hF⟩ := ob hF
      refine jj_callV0 hJ (c_X7_valueOf l D cI cS cII DA D_length D_text D_levels D_readLevels D_readAsked D_asked D_readKinds D_now D_before D_undoMany D_kept D_keptMany D_refused D_roundMany D_roundOver D_round D_terms D_termLevel D_termAdd D_spot D_number D_reach D_edge D_by a1 h4) dX7_level_92 kw_237 ⟨Nat.le_of_ble_eq_true rfl, Nat.le_of_ble_eq_true rfl, rfl, rfl⟩ kw_236 kw_238 kw_239 0 rfl rfl rfl rfl (Nat.le_of_ble_eq_true rfl) [0, 1, 2, 3, 4, 5, 6, 7, 8, 9, 10, 11, 12, 13] rfl rfl ?_
      refine jj_icmp_lt hJ 118 dX7_level_95 rfl (fun c6 => ?_) (fun c6 => ?_)
      · replace hF := ip c6 hF
        refine jj_lv hJ [0, 2, 3] (lv' := [(4, .int v4), (0, .ref (DA 0)), (1, .int a1)]) rfl ?_
        exact w_X7_level_118 hJ (fun v4 v3 D_reach D_edge => ih v4 v3 D_reach D_edge) v4 v3 D_reach D_edge hF
      · replace hF := iq c6 hF
        refine jj_aload_n hJ dX7_level_98 2 rfl rfl ?_
        refine jj_iload hJ dX7_level_99 0 rfl ?_
        obtain ⟨r8, h7, hF⟩ := ob hF
        refine jj_callV0 hJ (c_X7_valueOf l D cI cS cII DA D_length D_text D_levels D_readLevels D_readAsked D_asked D_readKinds D_now D_before D_undoMany D_kept D_keptMany D_refused D_roundMany D_roundOver D_round D_terms D_termLevel D_termAdd D_spot D_number D_reach D_edge D_by v4 h7) dX7_level_101 kw_237 ⟨Nat.le_of_ble_eq_true rfl, Nat.le_of_ble_eq_true rfl, rfl, rfl⟩ kw_236 kw_238 kw_239 0 rfl rfl rfl rfl (Nat.le_of_ble_eq_true rfl) [0, 1, 2, 3, 4, 5, 6, 7, 8, 9, 10, 11, 12, 13] rfl rfl ?_
        refine jj_aload_n hJ dX7_level_104 2 rfl rfl ?_
        refine jj_iload_n hJ dX7_level_105 3 rfl rfl ?_
        obtain ⟨r10, h9, hF⟩ := ob hF
        refine jj_callV0 hJ (c_X7_valueOf l D cI cS cII DA D_length D_text D_levels D_readLevels D_readAsked D_asked D_readKinds D_now D_before D_undoMany D_kept D_keptMany D_refused D_roundMany D_roundOver D_round D_terms D_termLevel D_termAdd D_spot D_number D_reach D_edge D_by a1 h9) dX7_level_106 kw_237 ⟨Nat.le_of_ble_eq_true rfl, Nat.le_of_ble_eq_true rfl, rfl, rfl⟩ kw_236 kw_238 kw_239 0 rfl rfl rfl rfl (Nat.le_of_ble_eq_true rfl) [0, 1, 2, 3, 4, 5, 6, 7, 8, 9, 10, 11, 12, 13] rfl rfl ?_
        refine jj_icmp_ne hJ 122 dX7_level_109 rfl (fun c11 => ?_) (fun c11 => ?_)
        · replace hF := iq c11 hF
          refine jj_iconst hJ dX7_level_122 ic_0 ?_
          refine jj_iadd hJ dX7_level_123 ?_
          refine jj_istore_n hJ dX7_level_124 rfl (Nat.le_of_ble_eq_true rfl) (lv' := [(3, .int (v3 + 0)), (4, .int v4), (0, .ref (DA 0)), (1, .int a1)]) rfl ?_
          refine jj_iinc hJ dX7_level_125 1 rfl (v := v4 + 1) (by rw [ic_1]) (Nat.le_of_ble_eq_true rfl) (lv' := [(4, .int (v4 + 1)), (3, .int (v3 + 0)), (0, .ref (DA 0)), (1, .int a1)]) rfl ?_
          refine jj_goto hJ 74 dX7_level_128 rfl ?_
          exact ih (v4 + 1) (v3 + 0) D_reach D_edge hF
        · replace hF := ip c11 hF
          refine jj_iload hJ dX7_level_112 0 rfl ?_
          refine jj_iload_n hJ dX7_level_114 3 rfl rfl ?_
          refine jj_icmp_ge hJ 122 dX7_level_115 rfl (fun c12 => ?_) (fun c12 => ?_)
          · replace hF := ip c12 hF
            refine jj_iconst hJ dX7_level_122 ic_0 ?_
            refine jj_iadd hJ dX7_level_123 ?_
            refine jj_istore_n hJ dX7_level_124 rfl (Nat.le_of_ble_eq_true rfl) (lv' := [(3, .int (v3 + 0)), (4, .int v4), (0, .ref (DA 0)), (1, .int a1)]) rfl ?_
            refine jj_iinc hJ dX7_level_125 1 rfl (v := v4 + 1) (by rw [ic_1]) (Nat.le_of_ble_eq_true rfl) (lv' := [(4, .int (v4 + 1)), (3, .int (v3 + 0)), (0, .ref (DA 0)), (1, .int a1)]) rfl ?_
            refine jj_goto hJ 74 dX7_level_128 rfl ?_
            exact ih (v4 + 1) (v3 + 0) D_reach D_edge hF
          · replace hF := iq c12 hF
            refine jj_lv hJ [0, 2, 3] (lv' := [(4, .int v4), (0, .ref (DA 0)), (1, .int a1)]) rfl ?_
            exact w_X7_level_118 hJ (fun v4 v3 D_reach D_edge => ih v4 v3 D_reach D_edge) v4 v3 D_reach D_edge hF
def q_X7_level_139 (D_levels : Int32) (D_now : Nat → Int32) (a1 : Int32) (a2 : Int32)  : Nat → Int32 → Int32 → (Nat → Int32) → (Nat → Int32) → Option (Int32 × (Nat → Int32) × (Nat → Int32))
  | 0, _, _, _, _ => none
  | n + 1, v5, v4, D_reach, D_edge => if D_levels ≤ v5 then (some (v4, D_reach, D_edge)) else ((p_X7_areSame D_reach a1 v5).bind fun r3 => if r3 = 0 then (q_X7_level_139 D_levels D_now a1 a2 n (v5 + 1) (v4 ||| 0) D_reach D_edge) else (q_X7_level_139 D_levels D_now a1 a2 n (v5 + 1) (v4 ||| (1 <<< (v5 &&& 31))) D_reach D_edge))
set_option maxRecDepth 100000 in
theorem w_X7_level_139 {D_length : Int32} {D_text : Nat → Int32} {D_levels : Int32} {D_readLevels : Int32} {D_readAsked : Int32} {D_asked : Nat → Int32} {D_readKinds : Nat → Int32} {D_now : Nat → Int32} {D_before : Nat → Int32} {D_undoMany : Int32} {D_kept : Nat → Int32} {D_keptMany : Int32} {D_refused : Int32} {D_roundMany : Int32} {D_roundOver : Int32} {D_round : Nat → Int32} {D_terms : Int32} {D_termLevel : Nat → Int32} {D_termAdd : Nat → Int32} {D_spot : Int32} {D_number : Nat → Int32} {D_by : Nat → Int32} {a1 : Int32} {a2 : Int32}  (hJ : jJ l cX7_level 6 D (tysU cI cS cII) RX7 Rm_X7_level (some .int) A (some z_r) (W_X7_level cI cS cII DA D_length D_text D_levels D_readLevels D_readAsked D_asked D_readKinds D_now D_before D_undoMany D_kept D_keptMany D_refused D_roundMany D_roundOver D_round D_terms D_termLevel D_termAdd D_spot D_number z_D_reach z_D_edge D_by) J)  : ∀ (n : Nat) (v5 : Int32) (v4 : Int32) (D_reach : Nat → Int32) (D_edge : Nat → Int32), q_X7_level_139 D_levels D_now a1 a2 n v5 v4 D_reach D_edge = some (z_r, z_D_reach, z_D_edge) → J (W_X7_level cI cS cII DA D_length D_text D_levels D_readLevels D_readAsked D_asked D_readKinds D_now D_before D_undoMany D_kept D_keptMany D_refused D_roundMany D_roundOver D_round D_terms D_termLevel D_termAdd D_spot D_number D_reach D_edge D_by) 139 [(5, .int v5), (4, .int v4), (0, .ref (DA 0)), (1, .int a1)] [] := by
  intro n
  induction n with
  | zero =>
    intro v5 v4 D_reach D_edge hF
    exact no_some (show (none : Option (Int32 × (Nat → Int32) × (Nat → Int32))) = some (z_r, z_D_reach, z_D_edge) from hF)
  | succ n ih =>
    intro v5 v4 D_reach D_edge hF
    rw [q_X7_level_139.eq_2] at hF
    refine jj_iload hJ dX7_level_139 0 rfl ?_
    refine jj_aload_n hJ dX7_level_141 2 rfl rfl ?_
    refine jj_get hJ lay_X7 dX7_level_142 0 2 rfl rfl (Nat.le_of_ble_eq_true rfl) kw_186 rfl ?_
    refine jj_icmp_ge hJ 177 dX7_level_145 rfl (fun c1 => ?_) (fun c1 => ?_)
    · replace hF := ip c1 hF
      refine jj_iload hJ dX7_level_177 1 rfl ?_
      cases Option.some.inj hF
      exact jj_iret hJ dX7_level_179
    · replace hF := iq c1 hF
      refine jj_iload hJ dX7_level_148 1 rfl ?_
      refine jj_aload_n hJ dX7_level_150 2 rfl rfl ?_
      refine jj_iload_n hJ dX7_level_151 3 rfl rfl ?_
      refine jj_iload hJ dX7_level_152 0 rfl ?_
      obtain ⟨r3, h2, hF⟩ := ob hF
      refine jj_callV0 hJ (c_X7_areSame l D cI cS cII DA D_length D_text D_levels D_readLevels D_readAsked D_asked D_readKinds D_now D_before D_undoMany D_kept D_keptMany D_refused D_roundMany D_roundOver D_round D_terms D_termLevel D_termAdd D_spot D_number D_reach D_edge D_by a1 v5 h2) dX7_level_154 kw_245 ⟨Nat.le_of_ble_eq_true rfl, Nat.le_of_ble_eq_true rfl, rfl, rfl⟩ kw_244 kw_246 kw_247 0 rfl rfl rfl rfl (Nat.le_of_ble_eq_true rfl) [0, 1, 2, 3, 4, 5, 6, 7, 8, 9, 10, 11, 12, 13] rfl rfl ?_
      refine jj_if_eq hJ 167 dX7_level_157 rfl (fun c4 => ?_) (fun c4 => ?_)
      · replace hF := ip c4 hF
        refine jj_iconst hJ dX7_level_167 ic_0 ?_
        refine jj_ior hJ dX7_level_168 ?_
        refine jj_istore hJ dX7_level_169 (Nat.le_of_ble_eq_true rfl) (lv' := [(4, .int (v4 ||| 0)), (5, .int v5), (0, .ref (DA 0)), (1, .int a1)]) rfl ?_
        refine jj_iinc hJ dX7_level_171 1 rfl (v := v5 + 1) (by rw [ic_1]) (Nat.le_of_ble_eq_true rfl) (lv' := [(5, .int (v5 + 1)), (4, .int (v4 ||| 0)), (0, .ref (DA 0)), (1, .int a1)]) rfl ?_
        refine jj_goto hJ 139 dX7_level_174 rfl ?_
        exact ih (v5 + 1) (v4 ||| 0) D_reach D_edge hF
      · replace hF := iq c4 hF
        refine jj_iconst hJ dX7_level_160 ic_1 ?_
        refine jj_iload hJ dX7_level_161 0 rfl ?_
        refine jj_ishl hJ dX7_level_163 ?_
        refine jj_goto hJ 168 dX7_level_164 rfl ?_
        refine jj_ior hJ dX7_level_168 ?_
        refine jj_istore hJ dX7_level_169 (Nat.le_of_ble_eq_true rfl) (lv' := [(4, .int (v4 ||| (1 <<< (v5 &&& 31)))), (5, .int v5), (0, .ref (DA 0)), (1, .int a1)]) rfl ?_
        refine jj_iinc hJ dX7_level_171 1 rfl (v := v5 + 1) (by rw [ic_1]) (Nat.le_of_ble_eq_true rfl) (lv' := [(5, .int (v5 + 1)), (4, .int (v4 ||| (1 <<< (v5 &&& 31)))), (0, .ref (DA 0)), (1, .int a1)]) rfl ?_
        refine jj_goto hJ 139 dX7_level_174 rfl ?_
        exact ih (v5 + 1) (v4 ||| (1 <<< (v5 &&& 31))) D_reach D_edge hF
def p_X7_level (D_levels : Int32) (D_now : Nat → Int32) (D_reach : Nat → Int32) (D_edge : Nat → Int32) (a1 : Int32) (a2 : Int32) : Option (Int32 × (Nat → Int32) × (Nat → Int32)) := (p_X7_isLevel D_levels a1).bind fun r2 => if r2 = 0 then (some ((-1), D_reach, D_edge)) else ((p_X7_in ((a2 : Int32).toInt64) 0 ((4))).bind fun r5 => if r5 = 0 then (some ((-1), D_reach, D_edge)) else ((p_X7_find D_levels D_now D_reach D_edge).bind fun (g8, g9) => if a2 = 0 then ((rd D_now 59 a1).bind fun x11 => some (x11, g8, g9)) else if a2 = 1 then ((p_X7_valueOf D_levels g8 a1).bind fun r15 => some (r15, g8, g9)) else if a2 = 2 then (q_X7_level_74 D_levels D_now a1 a2 FU 0 0 g8 g9) else if a2 = 3 then (q_X7_level_139 D_levels D_now a1 a2 FU 0 0 g8 g9) else ((p_X7_isFloating D_now a1).bind fun r19 => if r19 = 0 then (some (0, g8, g9)) else (some (1, g8, g9)))))
end
set_option maxRecDepth 100000 in
theorem c_X7_level (l : Launch) (D : va_G) (cI cS cII : ClassId) (DA : Nat → Nat) (D_length : Int32) (D_text : Nat → Int32) (D_levels : Int32) (D_readLevels : Int32) (D_readAsked : Int32) (D_asked : Nat → Int32) (D_readKinds : Nat → Int32) (D_now : Nat → Int32) (D_before : Nat → Int32) (D_undoMany : Int32) (D_kept : Nat → Int32) (D_keptMany : Int32) (D_refused : Int32) (D_roundMany : Int32) (D_roundOver : Int32) (D_round : Nat → Int32) (D_terms : Int32) (D_termLevel : Nat → Int32) (D_termAdd : Nat → Int32) (D_spot : Int32) (D_number : Nat → Int32) (D_reach : Nat → Int32) (D_edge : Nat → Int32) (D_by : Nat → Int32) (a1 : Int32) (a2 : Int32) {z_r : Int32} {z_D_reach : Nat → Int32} {z_D_edge : Nat → Int32} (hF : p_X7_level D_levels D_now D_reach D_edge a1 a2 = some (z_r, z_D_reach, z_D_edge)) : MJ l yX7_level cX7_level 6 (some .int) Rm_X7_level D (tysU cI cS cII) [.ref (DA 0), .int a1, .int a2] (W_X7_level cI cS cII DA D_length D_text D_levels D_readLevels D_readAsked D_asked D_readKinds D_now D_before D_undoMany D_kept D_keptMany D_refused D_roundMany D_roundOver D_round D_terms D_termLevel D_termAdd D_spot D_number D_reach D_edge D_by) (some z_r) (W_X7_level cI cS cII DA D_length D_text D_levels D_readLevels D_readAsked D_asked D_readKinds D_now D_before D_undoMany D_kept D_keptMany D_refused D_roundMany D_roundOver D_round D_terms D_termLevel D_termAdd D_spot D_number z_D_reach z_D_edge D_by) := by
  refine mj_of (own := RX7) (by decide) rfl (Nat.le_of_ble_eq_true rfl) (fun J hJ => ?_)
  show J (W_X7_level cI cS cII DA D_length D_text D_levels D_readLevels D_readAsked D_asked D_readKinds D_now D_before D_undoMany D_kept D_keptMany D_refused D_roundMany D_roundOver D_round D_terms D_termLevel D_termAdd D_spot D_number D_reach D_edge D_by) 0 [(0, .ref (DA 0)), (1, .int a1), (2, .int a2)] []
  unfold p_X7_level at hF
  refine jj_aload_n hJ dX7_level_0 0 rfl rfl ?_
  refine jj_iload_n hJ dX7_level_1 1 rfl rfl ?_
  obtain ⟨r2, h1, hF⟩ := ob hF
  refine jj_callV0 hJ (c_X7_isLevel l D cI cS cII DA D_length D_text D_levels D_readLevels D_readAsked D_asked D_readKinds D_now D_before D_undoMany D_kept D_keptMany D_refused D_roundMany D_roundOver D_round D_terms D_termLevel D_termAdd D_spot D_number D_reach D_edge D_by a1 h1) dX7_level_2 kw_232 ⟨Nat.le_of_ble_eq_true rfl, Nat.le_of_ble_eq_true rfl, rfl, rfl⟩ kw_231 kw_233 kw_234 0 rfl rfl rfl rfl (Nat.le_of_ble_eq_true rfl) [0, 1, 2, 3, 4, 5, 6, 7, 8, 9, 10, 11, 12, 13] rfl rfl ?_
  refine jj_if_eq hJ 20 dX7_level_5 rfl (fun c3 => ?_) (fun c3 => ?_)
  · replace hF := ip c3 hF
    refine jj_iconst hJ dX7_level_20 ic_m1 ?_
    cases Option.some.inj hF
    exact jj_iret hJ dX7_level_21
  · replace hF := iq c3 hF
    refine jj_iload_n hJ dX7_level_8 2 rfl rfl ?_
    refine jj_i2l hJ dX7_level_9 ?_
    refine jj_lconst hJ dX7_level_10 lc_0 ?_
    refine jj_ldc2 hJ dX7_level_11 kw_235 ?_
    obtain ⟨r5, h4, hF⟩ := ob hF
    refine jj_callS0 hJ (c_X7_in l D cI cS cII   ((a2 : Int32).toInt64) 0 ((4)) h4) dX7_level_14 kw_140 ⟨Nat.le_of_ble_eq_true rfl, Nat.le_of_ble_eq_true rfl, rfl, rfl⟩ kw_141 kw_142 rfl rfl (Nat.le_of_ble_eq_true rfl) [] rfl rfl ?_
    refine jj_if_ne hJ 22 dX7_level_17 rfl (fun c6 => ?_) (fun c6 => ?_)
    · replace hF := iq c6 hF
      refine jj_aload_n hJ dX7_level_22 0 rfl rfl ?_
      obtain ⟨⟨g8, g9⟩, h7, hF⟩ := ob hF
      refine jj_callV hJ (c_X7_find l D cI cS cII DA D_length D_text D_levels D_readLevels D_readAsked D_asked D_readKinds D_now D_before D_undoMany D_kept D_keptMany D_refused D_roundMany D_roundOver D_round D_terms D_termLevel D_termAdd D_spot D_number D_reach D_edge D_by  h7) dX7_level_23 kw_203 ⟨Nat.le_of_ble_eq_true rfl, Nat.le_of_ble_eq_true rfl, rfl, rfl⟩ kw_202 kw_204 kw_205 0 rfl rfl rfl rfl (Nat.le_of_ble_eq_true rfl) [0, 1, 2, 3, 4, 5, 6, 7, 8, 9, 10, 11, 12, 13] rfl rfl (wn := (W_X7_level cI cS cII DA D_length D_text D_levels D_readLevels D_readAsked D_asked D_readKinds D_now D_before D_undoMany D_kept D_keptMany D_refused D_roundMany D_roundOver D_round D_terms D_termLevel D_termAdd D_spot D_number g8 g9 D_by)) (jNew_sel rfl [some 0, some 1, some 2, some 3, some 4, some 5, some 6, some 7, some 8, some 9, some 10, some 11, some 12, some 13] (by decide +kernel) rfl) ?_
      refine jj_iload_n hJ dX7_level_26 2 rfl rfl ?_
      by_cases c10 : a2 = 0
      · replace hF := ip c10 hF
        refine jj_tin hJ 56 dX7_level_27 (by rw [c10] <;> decide) (by rw [c10] <;> decide) (by rw [c10] <;> rfl) rfl ?_
        refine jj_aload_n hJ dX7_level_56 0 rfl rfl ?_
        refine jj_get hJ lay_X7 dX7_level_57 0 7 rfl rfl (Nat.le_of_ble_eq_true rfl) kw_178 rfl ?_
        refine jj_iload_n hJ dX7_level_60 1 rfl rfl ?_
        obtain ⟨x11, h12, hF⟩ := ob hF
        refine jj_iald hJ dX7_level_61 4 0 rfl rfl h12 ?_
        cases Option.some.inj hF
        exact jj_iret hJ dX7_level_62
      replace hF := iq c10 hF
      by_cases c13 : a2 = 1
      · replace hF := ip c13 hF
        refine jj_tin hJ 63 dX7_level_27 (by rw [c13] <;> decide) (by rw [c13] <;> decide) (by rw [c13] <;> rfl) rfl ?_
        refine jj_aload_n hJ dX7_level_63 0 rfl rfl ?_
        refine jj_iload_n hJ dX7_level_64 1 rfl rfl ?_
        obtain ⟨r15, h14, hF⟩ := ob hF
        refine jj_callV0 hJ (c_X7_valueOf l D cI cS cII DA D_length D_text D_levels D_readLevels D_readAsked D_asked D_readKinds D_now D_before D_undoMany D_kept D_keptMany D_refused D_roundMany D_roundOver D_round D_terms D_termLevel D_termAdd D_spot D_number g8 g9 D_by a1 h14) dX7_level_65 kw_237 ⟨Nat.le_of_ble_eq_true rfl, Nat.le_of_ble_eq_true rfl, rfl, rfl⟩ kw_236 kw_238 kw_239 0 rfl rfl rfl rfl (Nat.le_of_ble_eq_true rfl) [0, 1, 2, 3, 4, 5, 6, 7, 8, 9, 10, 11, 12, 13] rfl rfl ?_
        cases Option.some.inj hF
        exact jj_iret hJ dX7_level_68
      replace hF := iq c13 hF
      by_cases c16 : a2 = 2
      · replace hF := ip c16 hF
        refine jj_tin hJ 69 dX7_level_27 (by rw [c16] <;> decide) (by rw [c16] <;> decide) (by rw [c16] <;> rfl) rfl ?_
        refine jj_iconst hJ dX7_level_69 ic_0 ?_
        refine jj_istore_n hJ dX7_level_70 rfl (Nat.le_of_ble_eq_true rfl) (lv' := [(3, .int 0), (0, .ref (DA 0)), (1, .int a1), (2, .int a2)]) rfl ?_
        refine jj_iconst hJ dX7_level_71 ic_0 ?_
        refine jj_istore hJ dX7_level_72 (Nat.le_of_ble_eq_true rfl) (lv' := [(4, .int 0), (3, .int 0), (0, .ref (DA 0)), (1, .int a1), (2, .int a2)]) rfl ?_
        refine jj_lv hJ [0, 1, 2, 3] (lv' := [(4, .int 0), (3, .int 0), (0, .ref (DA 0)), (1, .int a1)]) rfl ?_
        exact w_X7_level_74 hJ  FU 0 0 g8 g9 hF
      replace hF := iq c16 hF
      by_cases c17 : a2 = 3
      · replace hF := ip c17 hF
        refine jj_tin hJ 133 dX7_level_27 (by rw [c17] <;> decide) (by rw [c17] <;> decide) (by rw [c17] <;> rfl) rfl ?_
        refine jj_iconst hJ dX7_level_133 ic_0 ?_
        refine jj_istore hJ dX7_level_134 (Nat.le_of_ble_eq_true rfl) (lv' := [(4, .int 0), (0, .ref (DA 0)), (1, .int a1), (2, .int a2)]) rfl ?_
        refine jj_iconst hJ dX7_level_136 ic_0 ?_
        refine jj_istore hJ dX7_level_137 (Nat.le_of_ble_eq_true rfl) (lv' := [(5, .int 0), (4, .int 0), (0, .ref (DA 0)), (1, .int a1), (2, .int a2)]) rfl ?_
        refine jj_lv hJ [0, 1, 2, 3] (lv' := [(5, .int 0), (4, .int 0), (0, .ref (DA 0)), (1, .int a1)]) rfl ?_
        exact w_X7_level_139 hJ  FU 0 0 g8 g9 hF
      replace hF := iq c17 hF
      refine jj_tout hJ 180 dX7_level_27 (by have := lv_neT c10 (show (0 : Int32).toInt = 0 from rfl); have := lv_neT c13 (show (1 : Int32).toInt = 1 from rfl); have := lv_neT c16 (show (2 : Int32).toInt = 2 from rfl); have := lv_neT c17 (show (3 : Int32).toInt = 3 from rfl); omega) rfl ?_
      refine jj_aload_n hJ dX7_level_180 0 rfl rfl ?_
      refine jj_iload_n hJ dX7_level_181 1 rfl rfl ?_
      obtain ⟨r19, h18, hF⟩ := ob hF
      refine jj_callV0 hJ (c_X7_isFloating l D cI cS cII DA D_length D_text D_levels D_readLevels D_readAsked D_asked D_readKinds D_now D_before D_undoMany D_kept D_keptMany D_refused D_roundMany D_roundOver D_round D_terms D_termLevel D_termAdd D_spot D_number g8 g9 D_by a1 h18) dX7_level_182 kw_241 ⟨Nat.le_of_ble_eq_true rfl, Nat.le_of_ble_eq_true rfl, rfl, rfl⟩ kw_240 kw_242 kw_243 0 rfl rfl rfl rfl (Nat.le_of_ble_eq_true rfl) [0, 1, 2, 3, 4, 5, 6, 7, 8, 9, 10, 11, 12, 13] rfl rfl ?_
      refine jj_if_eq hJ 192 dX7_level_185 rfl (fun c20 => ?_) (fun c20 => ?_)
      · replace hF := ip c20 hF
        refine jj_iconst hJ dX7_level_192 ic_0 ?_
        cases Option.some.inj hF
        exact jj_iret hJ dX7_level_193
      · replace hF := iq c20 hF
        refine jj_iconst hJ dX7_level_188 ic_1 ?_
        refine jj_goto hJ 193 dX7_level_189 rfl ?_
        cases Option.some.inj hF
        exact jj_iret hJ dX7_level_193
    · replace hF := ip c6 hF
      refine jj_iconst hJ dX7_level_20 ic_m1 ?_
      cases Option.some.inj hF
      exact jj_iret hJ dX7_level_21
section
def W_X7_bound (cI cS cII : ClassId) (DA : Nat → Nat) (D_length : Int32) (D_text : Nat → Int32) (D_levels : Int32) (D_readLevels : Int32) (D_readAsked : Int32) (D_asked : Nat → Int32) (D_readKinds : Nat → Int32) (D_now : Nat → Int32) (D_before : Nat → Int32) (D_undoMany : Int32) (D_kept : Nat → Int32) (D_keptMany : Int32) (D_refused : Int32) (D_roundMany : Int32) (D_roundOver : Int32) (D_round : Nat → Int32) (D_terms : Int32) (D_termLevel : Nat → Int32) (D_termAdd : Nat → Int32) (D_spot : Int32) (D_number : Nat → Int32) (D_reach : Nat → Int32) (D_edge : Nat → Int32) (D_by : Nat → Int32) : va_W := [((DA 0), .inr (7, [.int D_length, .ref (DA 1), .int D_levels, .int D_readLevels, .int D_readAsked, .ref (DA 2), .ref (DA 3), .ref (DA 4), .ref (DA 5), .int D_undoMany, .ref (DA 6), .int D_keptMany, .int D_refused, .int D_roundMany, .int D_roundOver, .ref (DA 7), .int D_terms, .ref (DA 8), .ref (DA 9), .int D_spot, .ref (DA 10), .ref (DA 11), .ref (DA 12), .ref (DA 13)])), ((DA 1), .inl (cI, 200, .inl D_text)), ((DA 2), .inl (cI, 160, .inl D_asked)), ((DA 3), .inl (cI, 10, .inl D_readKinds)), ((DA 4), .inl (cI, 59, .inl D_now)), ((DA 5), .inl (cI, 472, .inl D_before)), ((DA 6), .inl (cI, 118, .inl D_kept)), ((DA 7), .inl (cI, 12, .inl D_round)), ((DA 8), .inl (cI, 6, .inl D_termLevel)), ((DA 9), .inl (cI, 6, .inl D_termAdd)), ((DA 10), .inl (cI, 3, .inl D_number)), ((DA 11), .inl (cI, 100, .inl D_reach)), ((DA 12), .inl (cI, 100, .inl D_edge)), ((DA 13), .inl (cI, 110, .inl D_by))]
abbrev Rm_X7_bound : Room := { frames := 2, cells := 0, slots := 0, locals := 47 }
variable {l : Launch} {D : va_G} {cI cS cII : ClassId} {DA : Nat → Nat} {A : Nat → Prop} {J : jT}
variable {z_r : Int32} {z_D_reach : Nat → Int32} {z_D_edge : Nat → Int32}
def p_X7_bound (D_levels : Int32) (D_now : Nat → Int32) (D_reach : Nat → Int32) (D_edge : Nat → Int32) (a1 : Int32) (a2 : Int32) : Option (Int32 × (Nat → Int32) × (Nat → Int32)) := (rd D_now 59 10).bind fun x1 => (p_X7_in ((a1 : Int32).toInt64) 0 ((x1 - 1 : Int32).toInt64)).bind fun r4 => if r4 = 0 then (some ((-1), D_reach, D_edge)) else ((p_X7_in ((a2 : Int32).toInt64) 0 ((4))).bind fun r7 => if r7 = 0 then (some ((-1), D_reach, D_edge)) else ((rd D_now 59 (11 + a1)).bind fun x9 => (rd D_now 59 (27 + a1)).bind fun x11 => (rd D_now 59 (43 + a1)).bind fun x13 => (p_X7_findBut D_levels D_now D_reach D_edge (1 <<< (a1 &&& 31))).bind fun (g16, g17) => if a2 = 0 then (some (x9, g16, g17)) else if a2 = 1 then (some (x11, g16, g17)) else if a2 = 2 then (some (x13 + 100, g16, g17)) else if a2 = 3 then ((rd g16 100 ((10 * x9) + x11)).bind fun x22 => (p_X7_isWay x22).bind fun r25 => if r25 = 0 then (some (0, g16, g17)) else ((rd g16 100 ((10 * x9) + x11)).bind fun x27 => if x27 < x13 then (some (0, g16, g17)) else (some (1, g16, g17)))) else ((rd g16 100 ((10 * x11) + x9)).bind fun x30 => (p_X7_isWay x30).bind fun r33 => if r33 = 0 then (some ((-4), g16, g17)) else ((rd g16 100 ((10 * x11) + x9)).bind fun x35 => some ((-x13) - x35, g16, g17)))))
end
set_option maxRecDepth 100000 in
theorem c_X7_bound (l : Launch) (D : va_G) (cI cS cII : ClassId) (DA : Nat → Nat) (D_length : Int32) (D_text : Nat → Int32) (D_levels : Int32) (D_readLevels : Int32) (D_readAsked : Int32) (D_asked : Nat → Int32) (D_readKinds : Nat → Int32) (D_now : Nat → Int32) (D_before : Nat → Int32) (D_undoMany : Int32) (D_kept : Nat → Int32) (D_keptMany : Int32) (D_refused : Int32) (D_roundMany : Int32) (D_roundOver : Int32) (D_round : Nat → Int32) (D_terms : Int32) (D_termLevel : Nat → Int32) (D_termAdd : Nat → Int32) (D_spot : Int32) (D_number : Nat → Int32) (D_reach : Nat → Int32) (D_edge : Nat → Int32) (D_by : Nat → Int32) (a1 : Int32) (a2 : Int32) {z_r : Int32} {z_D_reach : Nat → Int32} {z_D_edge : Nat → Int32} (hF : p_X7_bound D_levels D_now D_reach D_edge a1 a2 = some (z_r, z_D_reach, z_D_edge)) : MJ l yX7_bound cX7_bound 6 (some .int) Rm_X7_bound D (tysU cI cS cII) [.ref (DA 0), .int a1, .int a2] (W_X7_bound cI cS cII DA D_length D_text D_levels D_readLevels D_readAsked D_asked D_readKinds D_now D_before D_undoMany D_kept D_keptMany D_refused D_roundMany D_roundOver D_round D_terms D_termLevel D_termAdd D_spot D_number D_reach D_edge D_by) (some z_r) (W_X7_bound cI cS cII DA D_length D_text D_levels D_readLevels D_readAsked D_asked D_readKinds D_now D_before D_undoMany D_kept D_keptMany D_refused D_roundMany D_roundOver D_round D_terms D_termLevel D_termAdd D_spot D_number z_D_reach z_D_edge D_by) := by
  refine mj_of (own := RX7) (by decide) rfl (Nat.le_of_ble_eq_true rfl) (fun J hJ => ?_)
  show J (W_X7_bound cI cS cII DA D_length D_text D_levels D_readLevels D_readAsked D_asked D_readKinds D_now D_before D_undoMany D_kept D_keptMany D_refused D_roundMany D_roundOver D_round D_terms D_termLevel D_termAdd D_spot D_number D_reach D_edge D_by) 0 [(0, .ref (DA 0)), (1, .int a1), (2, .int a2)] []
  unfold p_X7_bound at hF
  refine jj_iload_n hJ dX7_bound_0 1 rfl rfl ?_
  refine jj_i2l hJ dX7_bound_1 ?_
  refine jj_lconst hJ dX7_bound_2 lc_0 ?_
  refine jj_aload_n hJ dX7_bound_3 0 rfl rfl ?_
  refine jj_get hJ lay_X7 dX7_bound_4 0 7 rfl rfl (Nat.le_of_ble_eq_true rfl) kw_178 rfl ?_
  refine jj_bipush hJ dX7_bound_7 bp_10 ?_
  obtain ⟨x1, h2, hF⟩ := ob hF
  refine jj_iald hJ dX7_bound_9 4 0 rfl rfl h2 ?_
  refine jj_iconst hJ dX7_bound_10 ic_1 ?_
  refine jj_isub hJ dX7_bound_11 ?_
  refine jj_i2l hJ dX7_bound_12 ?_
  obtain ⟨r4, h3, hF⟩ := ob hF
  refine jj_callS0 hJ (c_X7_in l D cI cS cII   ((a1 : Int32).toInt64) 0 ((x1 - 1 : Int32).toInt64) h3) dX7_bound_13 kw_140 ⟨Nat.le_of_ble_eq_true rfl, Nat.le_of_ble_eq_true rfl, rfl, rfl⟩ kw_141 kw_142 rfl rfl (Nat.le_of_ble_eq_true rfl) [] rfl rfl ?_
  refine jj_if_eq hJ 31 dX7_bound_16 rfl (fun c5 => ?_) (fun c5 => ?_)
  · replace hF := ip c5 hF
    refine jj_iconst hJ dX7_bound_31 ic_m1 ?_
    cases Option.some.inj hF
    exact jj_iret hJ dX7_bound_32
  · replace hF := iq c5 hF
    refine jj_iload_n hJ dX7_bound_19 2 rfl rfl ?_
    refine jj_i2l hJ dX7_bound_20 ?_
    refine jj_lconst hJ dX7_bound_21 lc_0 ?_
    refine jj_ldc2 hJ dX7_bound_22 kw_235 ?_
    obtain ⟨r7, h6, hF⟩ := ob hF
    refine jj_callS0 hJ (c_X7_in l D cI cS cII   ((a2 : Int32).toInt64) 0 ((4)) h6) dX7_bound_25 kw_140 ⟨Nat.le_of_ble_eq_true rfl, Nat.le_of_ble_eq_true rfl, rfl, rfl⟩ kw_141 kw_142 rfl rfl (Nat.le_of_ble_eq_true rfl) [] rfl rfl ?_
    refine jj_if_ne hJ 33 dX7_bound_28 rfl (fun c8 => ?_) (fun c8 => ?_)
    · replace hF := iq c8 hF
      refine jj_aload_n hJ dX7_bound_33 0 rfl rfl ?_
      refine jj_get hJ lay_X7 dX7_bound_34 0 7 rfl rfl (Nat.le_of_ble_eq_true rfl) kw_178 rfl ?_
      refine jj_bipush hJ dX7_bound_37 bp_11 ?_
      refine jj_iload_n hJ dX7_bound_39 1 rfl rfl ?_
      refine jj_iadd hJ dX7_bound_40 ?_
      obtain ⟨x9, h10, hF⟩ := ob hF
      refine jj_iald hJ dX7_bound_41 4 0 rfl rfl h10 ?_
      refine jj_istore_n hJ dX7_bound_42 rfl (Nat.le_of_ble_eq_true rfl) (lv' := [(3, .int x9), (0, .ref (DA 0)), (1, .int a1), (2, .int a2)]) rfl ?_
      refine jj_aload_n hJ dX7_bound_43 1 rfl rfl ?_
      refine jj_get hJ lay_X7 dX7_bound_44 0 7 rfl rfl (Nat.le_of_ble_eq_true rfl) kw_178 rfl ?_
      refine jj_bipush hJ dX7_bound_47 bp_27 ?_
      refine jj_iload_n hJ dX7_bound_49 2 rfl rfl ?_
      refine jj_iadd hJ dX7_bound_50 ?_
      obtain ⟨x11, h12, hF⟩ := ob hF
      refine jj_iald hJ dX7_bound_51 4 0 rfl rfl h12 ?_
      refine jj_istore hJ dX7_bound_52 (Nat.le_of_ble_eq_true rfl) (lv' := [(4, .int x11), (3, .int x9), (0, .ref (DA 0)), (1, .int a1), (2, .int a2)]) rfl ?_
      refine jj_aload_n hJ dX7_bound_54 2 rfl rfl ?_
      refine jj_get hJ lay_X7 dX7_bound_55 0 7 rfl rfl (Nat.le_of_ble_eq_true rfl) kw_178 rfl ?_
      refine jj_bipush hJ dX7_bound_58 bp_43 ?_
      refine jj_iload_n hJ dX7_bound_60 3 rfl rfl ?_
      refine jj_iadd hJ dX7_bound_61 ?_
      obtain ⟨x13, h14, hF⟩ := ob hF
      refine jj_iald hJ dX7_bound_62 4 0 rfl rfl h14 ?_
      refine jj_istore hJ dX7_bound_63 (Nat.le_of_ble_eq_true rfl) (lv' := [(5, .int x13), (4, .int x11), (3, .int x9), (0, .ref (DA 0)), (1, .int a1), (2, .int a2)]) rfl ?_
      refine jj_aload_n hJ dX7_bound_65 3 rfl rfl ?_
      refine jj_iconst hJ dX7_bound_66 ic_1 ?_
      refine jj_iload_n hJ dX7_bound_67 4 rfl rfl ?_
      refine jj_ishl hJ dX7_bound_68 ?_
      obtain ⟨⟨g16, g17⟩, h15, hF⟩ := ob hF
      refine jj_callV hJ (c_X7_findBut l D cI cS cII DA D_length D_text D_levels D_readLevels D_readAsked D_asked D_readKinds D_now D_before D_undoMany D_kept D_keptMany D_refused D_roundMany D_roundOver D_round D_terms D_termLevel D_termAdd D_spot D_number D_reach D_edge D_by (1 <<< (a1 &&& 31)) h15) dX7_bound_69 kw_191 ⟨Nat.le_of_ble_eq_true rfl, Nat.le_of_ble_eq_true rfl, rfl, rfl⟩ kw_190 kw_192 kw_193 0 rfl rfl rfl rfl (Nat.le_of_ble_eq_true rfl) [0, 1, 2, 3, 4, 5, 6, 7, 8, 9, 10, 11, 12, 13] rfl rfl (wn := (W_X7_bound cI cS cII DA D_length D_text D_levels D_readLevels D_readAsked D_asked D_readKinds D_now D_before D_undoMany D_kept D_keptMany D_refused D_roundMany D_roundOver D_round D_terms D_termLevel D_termAdd D_spot D_number g16 g17 D_by)) (jNew_sel rfl [some 0, some 1, some 2, some 3, some 4, some 5, some 6, some 7, some 8, some 9, some 10, some 11, some 12, some 13] (by decide +kernel) rfl) ?_
      refine jj_iload_n hJ dX7_bound_72 5 rfl rfl ?_
      by_cases c18 : a2 = 0
      · replace hF := ip c18 hF
        refine jj_tin hJ 104 dX7_bound_73 (by rw [c18] <;> decide) (by rw [c18] <;> decide) (by rw [c18] <;> rfl) rfl ?_
        refine jj_iload_n hJ dX7_bound_104 2 rfl rfl ?_
        cases Option.some.inj hF
        exact jj_iret hJ dX7_bound_105
      replace hF := iq c18 hF
      by_cases c19 : a2 = 1
      · replace hF := ip c19 hF
        refine jj_tin hJ 106 dX7_bound_73 (by rw [c19] <;> decide) (by rw [c19] <;> decide) (by rw [c19] <;> rfl) rfl ?_
        refine jj_iload hJ dX7_bound_106 1 rfl ?_
        cases Option.some.inj hF
        exact jj_iret hJ dX7_bound_108
      replace hF := iq c19 hF
      by_cases c20 : a2 = 2
      · replace hF := ip c20 hF
        refine jj_tin hJ 109 dX7_bound_73 (by rw [c20] <;> decide) (by rw [c20] <;> decide) (by rw [c20] <;> rfl) rfl ?_
        refine jj_iload hJ dX7_bound_109 0 rfl ?_
        refine jj_bipush hJ dX7_bound_111 bp_100 ?_
        refine jj_iadd hJ dX7_bound_113 ?_
        cases Option.some.inj hF
        exact jj_iret hJ dX7_bound_114
      replace hF := iq c20 hF
      by_cases c21 : a2 = 3
      · replace hF := ip c21 hF
        refine jj_tin hJ 115 dX7_bound_73 (by rw [c21] <;> decide) (by rw [c21] <;> decide) (by rw [c21] <;> rfl) rfl ?_
        refine jj_aload_n hJ dX7_bound_115 3 rfl rfl ?_
        refine jj_get hJ lay_X7 dX7_bound_116 0 21 rfl rfl (Nat.le_of_ble_eq_true rfl) kw_185 rfl ?_
        refine jj_bipush hJ dX7_bound_119 bp_10 ?_
        refine jj_iload_n hJ dX7_bound_121 2 rfl rfl ?_
        refine jj_imul hJ dX7_bound_122 ?_
        refine jj_iload hJ dX7_bound_123 1 rfl ?_
        refine jj_iadd hJ dX7_bound_125 ?_
        obtain ⟨x22, h23, hF⟩ := ob hF
        refine jj_iald hJ dX7_bound_126 11 0 rfl rfl h23 ?_
        obtain ⟨r25, h24, hF⟩ := ob hF
        refine jj_callS0 hJ (c_X7_isWay l D cI cS cII   x22 h24) dX7_bound_127 kw_187 ⟨Nat.le_of_ble_eq_true rfl, Nat.le_of_ble_eq_true rfl, rfl, rfl⟩ kw_188 kw_189 rfl rfl (Nat.le_of_ble_eq_true rfl) [] rfl rfl ?_
        refine jj_if_eq hJ 154 dX7_bound_130 rfl (fun c26 => ?_) (fun c26 => ?_)
        · replace hF := ip c26 hF
          refine jj_iconst hJ dX7_bound_154 ic_0 ?_
          cases Option.some.inj hF
          exact jj_iret hJ dX7_bound_155
        · replace hF := iq c26 hF
          refine jj_aload_n hJ dX7_bound_133 3 rfl rfl ?_
          refine jj_get hJ lay_X7 dX7_bound_134 0 21 rfl rfl (Nat.le_of_ble_eq_true rfl) kw_185 rfl ?_
          refine jj_bipush hJ dX7_bound_137 bp_10 ?_
          refine jj_iload_n hJ dX7_bound_139 2 rfl rfl ?_
          refine jj_imul hJ dX7_bound_140 ?_
          refine jj_iload hJ dX7_bound_141 1 rfl ?_
          refine jj_iadd hJ dX7_bound_143 ?_
          obtain ⟨x27, h28, hF⟩ := ob hF
          refine jj_iald hJ dX7_bound_144 11 0 rfl rfl h28 ?_
          refine jj_iload hJ dX7_bound_145 0 rfl ?_
          refine jj_icmp_lt hJ 154 dX7_bound_147 rfl (fun c29 => ?_) (fun c29 => ?_)
          · replace hF := ip c29 hF
            refine jj_iconst hJ dX7_bound_154 ic_0 ?_
            cases Option.some.inj hF
            exact jj_iret hJ dX7_bound_155
          · replace hF := iq c29 hF
            refine jj_iconst hJ dX7_bound_150 ic_1 ?_
            refine jj_goto hJ 155 dX7_bound_151 rfl ?_
            cases Option.some.inj hF
            exact jj_iret hJ dX7_bound_155
      replace hF := iq c21 hF
      refine jj_tout hJ 156 dX7_bound_73 (by have := lv_neT c18 (show (0 : Int32).toInt = 0 from rfl); have := lv_neT c19 (show (1 : Int32).toInt = 1 from rfl); have := lv_neT c20 (show (2 : Int32).toInt = 2 from rfl); have := lv_neT c21 (show (3 : Int32).toInt = 3 from rfl); omega) rfl ?_
      refine jj_aload_n hJ dX7_bound_156 3 rfl rfl ?_
      refine jj_get hJ lay_X7 dX7_bound_157 0 21 rfl rfl (Nat.le_of_ble_eq_true rfl) kw_185 rfl ?_
      refine jj_bipush hJ dX7_bound_160 bp_10 ?_
      refine jj_iload hJ dX7_bound_162 1 rfl ?_
      refine jj_imul hJ dX7_bound_164 ?_
      refine jj_iload_n hJ dX7_bound_165 2 rfl rfl ?_
      refine jj_iadd hJ dX7_bound_166 ?_
      obtain ⟨x30, h31, hF⟩ := ob hF
      refine jj_iald hJ dX7_bound_167 11 0 rfl rfl h31 ?_
      obtain ⟨r33, h32, hF⟩ := ob hF
      refine jj_callS0 hJ (c_X7_isWay l D cI cS cII   x30 h32) dX7_bound_168 kw_187 ⟨Nat.le_of_ble_eq_true rfl, Nat.le_of_ble_eq_true rfl, rfl, rfl⟩ kw_188 kw_189 rfl rfl (Nat.le_of_ble_eq_true rfl) [] rfl rfl ?_
      refine jj_if_eq hJ 193 dX7_bound_171 rfl (fun c34 => ?_) (fun c34 => ?_)
      · replace hF := ip c34 hF
        refine jj_bipush hJ dX7_bound_193 bp_m4 ?_
        cases Option.some.inj hF
        exact jj_iret hJ dX7_bound_195
      · replace hF := iq c34 hF
        refine jj_iload hJ dX7_bound_174 0 rfl ?_
        refine jj_ineg hJ dX7_bound_176 ?_
        refine jj_aload_n hJ dX7_bound_177 3 rfl rfl ?_
        refine jj_get hJ lay_X7 dX7_bound_178 0 21 rfl rfl (Nat.le_of_ble_eq_true rfl) kw_185 rfl ?_
        refine jj_bipush hJ dX7_bound_181 bp_10 ?_
        refine jj_iload hJ dX7_bound_183 1 rfl ?_
        refine jj_imul hJ dX7_bound_185 ?_
        refine jj_iload_n hJ dX7_bound_186 2 rfl rfl ?_
        refine jj_iadd hJ dX7_bound_187 ?_
        obtain ⟨x35, h36, hF⟩ := ob hF
        refine jj_iald hJ dX7_bound_188 11 0 rfl rfl h36 ?_
        refine jj_isub hJ dX7_bound_189 ?_
        refine jj_goto hJ 195 dX7_bound_190 rfl ?_
        cases Option.some.inj hF
        exact jj_iret hJ dX7_bound_195
    · replace hF := ip c8 hF
      refine jj_iconst hJ dX7_bound_31 ic_m1 ?_
      cases Option.some.inj hF
      exact jj_iret hJ dX7_bound_32
section
def W_X7_reach (cI cS cII : ClassId) (DA : Nat → Nat) (D_length : Int32) (D_text : Nat → Int32) (D_levels : Int32) (D_readLevels : Int32) (D_readAsked : Int32) (D_asked : Nat → Int32) (D_readKinds : Nat → Int32) (D_now : Nat → Int32) (D_before : Nat → Int32) (D_undoMany : Int32) (D_kept : Nat → Int32) (D_keptMany : Int32) (D_refused : Int32) (D_roundMany : Int32) (D_roundOver : Int32) (D_round : Nat → Int32) (D_terms : Int32) (D_termLevel : Nat → Int32) (D_termAdd : Nat → Int32) (D_spot : Int32) (D_number : Nat → Int32) (D_reach : Nat → Int32) (D_edge : Nat → Int32) (D_by : Nat → Int32) : va_W := [((DA 0), .inr (7, [.int D_length, .ref (DA 1), .int D_levels, .int D_readLevels, .int D_readAsked, .ref (DA 2), .ref (DA 3), .ref (DA 4), .ref (DA 5), .int D_undoMany, .ref (DA 6), .int D_keptMany, .int D_refused, .int D_roundMany, .int D_roundOver, .ref (DA 7), .int D_terms, .ref (DA 8), .ref (DA 9), .int D_spot, .ref (DA 10), .ref (DA 11), .ref (DA 12), .ref (DA 13)])), ((DA 1), .inl (cI, 200, .inl D_text)), ((DA 2), .inl (cI, 160, .inl D_asked)), ((DA 3), .inl (cI, 10, .inl D_readKinds)), ((DA 4), .inl (cI, 59, .inl D_now)), ((DA 5), .inl (cI, 472, .inl D_before)), ((DA 6), .inl (cI, 118, .inl D_kept)), ((DA 7), .inl (cI, 12, .inl D_round)), ((DA 8), .inl (cI, 6, .inl D_termLevel)), ((DA 9), .inl (cI, 6, .inl D_termAdd)), ((DA 10), .inl (cI, 3, .inl D_number)), ((DA 11), .inl (cI, 100, .inl D_reach)), ((DA 12), .inl (cI, 100, .inl D_edge)), ((DA 13), .inl (cI, 110, .inl D_by))]
abbrev Rm_X7_reach : Room := { frames := 3, cells := 0, slots := 0, locals := 67 }
variable {l : Launch} {D : va_G} {cI cS cII : ClassId} {DA : Nat → Nat} {A : Nat → Prop} {J : jT}
variable {z_r : Int32} {z_D_reach : Nat → Int32} {z_D_edge : Nat → Int32}
def p_X7_reach (D_levels : Int32) (D_now : Nat → Int32) (D_reach : Nat → Int32) (D_edge : Nat → Int32) (a1 : Int32) (a2 : Int32) : Option (Int32 × (Nat → Int32) × (Nat → Int32)) := (p_X7_isLevel D_levels a1).bind fun r2 => if r2 = 0 then (some ((-1), D_reach, D_edge)) else ((p_X7_isLevel D_levels a2).bind fun r5 => if r5 = 0 then (some ((-1), D_reach, D_edge)) else ((p_X7_find D_levels D_now D_reach D_edge).bind fun (g8, g9) => (rd g8 100 ((10 * a1) + a2)).bind fun x10 => (p_X7_isWay x10).bind fun r13 => if r13 = 0 then (some ((-4), g8, g9)) else ((rd g8 100 ((10 * a1) + a2)).bind fun x15 => some (x15 + 1000, g8, g9))))
end
set_option maxRecDepth 100000 in
theorem c_X7_reach (l : Launch) (D : va_G) (cI cS cII : ClassId) (DA : Nat → Nat) (D_length : Int32) (D_text : Nat → Int32) (D_levels : Int32) (D_readLevels : Int32) (D_readAsked : Int32) (D_asked : Nat → Int32) (D_readKinds : Nat → Int32) (D_now : Nat → Int32) (D_before : Nat → Int32) (D_undoMany : Int32) (D_kept : Nat → Int32) (D_keptMany : Int32) (D_refused : Int32) (D_roundMany : Int32) (D_roundOver : Int32) (D_round : Nat → Int32) (D_terms : Int32) (D_termLevel : Nat → Int32) (D_termAdd : Nat → Int32) (D_spot : Int32) (D_number : Nat → Int32) (D_reach : Nat → Int32) (D_edge : Nat → Int32) (D_by : Nat → Int32) (a1 : Int32) (a2 : Int32) {z_r : Int32} {z_D_reach : Nat → Int32} {z_D_edge : Nat → Int32} (hF : p_X7_reach D_levels D_now D_reach D_edge a1 a2 = some (z_r, z_D_reach, z_D_edge)) : MJ l yX7_reach cX7_reach 3 (some .int) Rm_X7_reach D (tysU cI cS cII) [.ref (DA 0), .int a1, .int a2] (W_X7_reach cI cS cII DA D_length D_text D_levels D_readLevels D_readAsked D_asked D_readKinds D_now D_before D_undoMany D_kept D_keptMany D_refused D_roundMany D_roundOver D_round D_terms D_termLevel D_termAdd D_spot D_number D_reach D_edge D_by) (some z_r) (W_X7_reach cI cS cII DA D_length D_text D_levels D_readLevels D_readAsked D_asked D_readKinds D_now D_before D_undoMany D_kept D_keptMany D_refused D_roundMany D_roundOver D_round D_terms D_termLevel D_termAdd D_spot D_number z_D_reach z_D_edge D_by) := by
  refine mj_of (own := RX7) (by decide) rfl (Nat.le_of_ble_eq_true rfl) (fun J hJ => ?_)
  show J (W_X7_reach cI cS cII DA D_length D_text D_levels D_readLevels D_readAsked D_asked D_readKinds D_now D_before D_undoMany D_kept D_keptMany D_refused D_roundMany D_roundOver D_round D_terms D_termLevel D_termAdd D_spot D_number D_reach D_edge D_by) 0 [(0, .ref (DA 0)), (1, .int a1), (2, .int a2)] []
  unfold p_X7_reach at hF
  refine jj_aload_n hJ dX7_reach_0 0 rfl rfl ?_
  refine jj_iload_n hJ dX7_reach_1 1 rfl rfl ?_
  obtain ⟨r2, h1, hF⟩ := ob hF
  refine jj_callV0 hJ (c_X7_isLevel l D cI cS cII DA D_length D_text D_levels D_readLevels D_readAsked D_asked D_readKinds D_now D_before D_undoMany D_kept D_keptMany D_refused D_roundMany D_roundOver D_round D_terms D_termLevel D_termAdd D_spot D_number D_reach D_edge D_by a1 h1) dX7_reach_2 kw_232 ⟨Nat.le_of_ble_eq_true rfl, Nat.le_of_ble_eq_true rfl, rfl, rfl⟩ kw_231 kw_233 kw_234 0 rfl rfl rfl rfl (Nat.le_of_ble_eq_true rfl) [0, 1, 2, 3, 4, 5, 6, 7, 8, 9, 10, 11, 12, 13] rfl rfl ?_
  refine jj_if_eq hJ 16 dX7_reach_5 rfl (fun c3 => ?_) (fun c3 => ?_)
  · replace hF := ip c3 hF
    refine jj_iconst hJ dX7_reach_16 ic_m1 ?_
    cases Option.some.inj hF
    exact jj_iret hJ dX7_reach_17
  · replace hF := iq c3 hF
    refine jj_aload_n hJ dX7_reach_8 0 rfl rfl ?_
    refine jj_iload_n hJ dX7_reach_9 2 rfl rfl ?_
    obtain ⟨r5, h4, hF⟩ := ob hF
    refine jj_callV0 hJ (c_X7_isLevel l D cI cS cII DA D_length D_text D_levels D_readLevels D_readAsked D_asked D_readKinds D_now D_before D_undoMany D_kept D_keptMany D_refused D_roundMany D_roundOver D_round D_terms D_termLevel D_termAdd D_spot D_number D_reach D_edge D_by a2 h4) dX7_reach_10 kw_232 ⟨Nat.le_of_ble_eq_true rfl, Nat.le_of_ble_eq_true rfl, rfl, rfl⟩ kw_231 kw_233 kw_234 0 rfl rfl rfl rfl (Nat.le_of_ble_eq_true rfl) [0, 1, 2, 3, 4, 5, 6, 7, 8, 9, 10, 11, 12, 13] rfl rfl ?_
    refine jj_if_ne hJ 18 dX7_reach_13 rfl (fun c6 => ?_) (fun c6 => ?_)
    · replace hF := iq c6 hF
      refine jj_aload_n hJ dX7_reach_18 0 rfl rfl ?_
      obtain ⟨⟨g8, g9⟩, h7, hF⟩ := ob hF
      refine jj_callV hJ (c_X7_find l D cI cS cII DA D_length D_text D_levels D_readLevels D_readAsked D_asked D_readKinds D_now D_before D_undoMany D_kept D_keptMany D_refused D_roundMany D_roundOver D_round D_terms D_termLevel D_termAdd D_spot D_number D_reach D_edge D_by  h7) dX7_reach_19 kw_203 ⟨Nat.le_of_ble_eq_true rfl, Nat.le_of_ble_eq_true rfl, rfl, rfl⟩ kw_202 kw_204 kw_205 0 rfl rfl rfl rfl (Nat.le_of_ble_eq_true rfl) [0, 1, 2, 3, 4, 5, 6, 7, 8, 9, 10, 11, 12, 13] rfl rfl (wn := (W_X7_reach cI cS cII DA D_length D_text D_levels D_readLevels D_readAsked D_asked D_readKinds D_now D_before D_undoMany D_kept D_keptMany D_refused D_roundMany D_roundOver D_round D_terms D_termLevel D_termAdd D_spot D_number g8 g9 D_by)) (jNew_sel rfl [some 0, some 1, some 2, some 3, some 4, some 5, some 6, some 7, some 8, some 9, some 10, some 11, some 12, some 13] (by decide +kernel) rfl) ?_
      refine jj_aload_n hJ dX7_reach_22 0 rfl rfl ?_
      refine jj_get hJ lay_X7 dX7_reach_23 0 21 rfl rfl (Nat.le_of_ble_eq_true rfl) kw_185 rfl ?_
      refine jj_bipush hJ dX7_reach_26 bp_10 ?_
      refine jj_iload_n hJ dX7_reach_28 1 rfl rfl ?_
      refine jj_imul hJ dX7_reach_29 ?_
      refine jj_iload_n hJ dX7_reach_30 2 rfl rfl ?_
      refine jj_iadd hJ dX7_reach_31 ?_
      obtain ⟨x10, h11, hF⟩ := ob hF
      refine jj_iald hJ dX7_reach_32 11 0 rfl rfl h11 ?_
      obtain ⟨r13, h12, hF⟩ := ob hF
      refine jj_callS0 hJ (c_X7_isWay l D cI cS cII   x10 h12) dX7_reach_33 kw_187 ⟨Nat.le_of_ble_eq_true rfl, Nat.le_of_ble_eq_true rfl, rfl, rfl⟩ kw_188 kw_189 rfl rfl (Nat.le_of_ble_eq_true rfl) [] rfl rfl ?_
      refine jj_if_eq hJ 57 dX7_reach_36 rfl (fun c14 => ?_) (fun c14 => ?_)
      · replace hF := ip c14 hF
        refine jj_bipush hJ dX7_reach_57 bp_m4 ?_
        cases Option.some.inj hF
        exact jj_iret hJ dX7_reach_59
      · replace hF := iq c14 hF
        refine jj_aload_n hJ dX7_reach_39 0 rfl rfl ?_
        refine jj_get hJ lay_X7 dX7_reach_40 0 21 rfl rfl (Nat.le_of_ble_eq_true rfl) kw_185 rfl ?_
        refine jj_bipush hJ dX7_reach_43 bp_10 ?_
        refine jj_iload_n hJ dX7_reach_45 1 rfl rfl ?_
        refine jj_imul hJ dX7_reach_46 ?_
        refine jj_iload_n hJ dX7_reach_47 2 rfl rfl ?_
        refine jj_iadd hJ dX7_reach_48 ?_
        obtain ⟨x15, h16, hF⟩ := ob hF
        refine jj_iald hJ dX7_reach_49 11 0 rfl rfl h16 ?_
        refine jj_sipush hJ dX7_reach_50 sp_1000 ?_
        refine jj_iadd hJ dX7_reach_53 ?_
        refine jj_goto hJ 59 dX7_reach_54 rfl ?_
        cases Option.some.inj hF
        exact jj_iret hJ dX7_reach_59
    · replace hF := ip c6 hF
      refine jj_iconst hJ dX7_reach_16 ic_m1 ?_
      cases Option.some.inj hF
      exact jj_iret hJ dX7_reach_17
