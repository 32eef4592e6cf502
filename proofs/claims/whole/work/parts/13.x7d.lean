theorem kw_275 : Cond.methodLink RX7 203 yX7_isNoMore ∈ lw_tbl := tb4 (i := 150) rfl
theorem kw_276 : cwOk yX7_isNoMore cX7_isNoMore 3 (some .boolean) 2 := ⟨tb4 (i := 153) rfl, tb1 (i := 15) rfl, by decide, by decide, by decide +kernel⟩
theorem kw_277 : Cond.instanceMethod yX7_isNoMore ∈ lw_tbl := tb4 (i := 152) rfl
theorem kw_278 : Cond.selects RX7 yX7_isNoMore yX7_isNoMore ∈ lw_tbl := tsel (i := 70) (q := (⟨"UniverseLevelsModel", "isNoMore", "(II)Z"⟩, 24)) rfl
theorem kw_279 : Cond.methodLink RX7 206 yX7_isRoot ∈ lw_tbl := tb4 (i := 166) rfl
theorem kw_280 : cwOk yX7_isRoot cX7_isRoot 3 (some .boolean) 2 := ⟨tb4 (i := 169) rfl, tb1 (i := 15) rfl, by decide, by decide, by decide +kernel⟩
theorem kw_281 : Cond.instanceMethod yX7_isRoot ∈ lw_tbl := tb4 (i := 168) rfl
theorem kw_282 : Cond.selects RX7 yX7_isRoot yX7_isRoot ∈ lw_tbl := tsel (i := 71) (q := (⟨"UniverseLevelsModel", "isRoot", "(II)Z"⟩, 24)) rfl
theorem kw_283 : Cond.fieldLink RX7 25 (TX7 10).1 (TX7 10).2.1 (TX7 10).2.2.1 ∈ lw_tbl := tb3 (i := 184) rfl
theorem kw_284 : Cond.methodLink RX7 209 yX7_greatest ∈ lw_tbl := tb4 (i := 186) rfl
theorem kw_285 : cwOk yX7_greatest cX7_greatest 3 (some .int) 0 := ⟨tb4 (i := 189) rfl, tb1 (i := 15) rfl, by decide, by decide, by decide +kernel⟩
theorem kw_286 : Cond.instanceMethod yX7_greatest ∈ lw_tbl := tb4 (i := 188) rfl
theorem kw_287 : Cond.selects RX7 yX7_greatest yX7_greatest ∈ lw_tbl := tsel (i := 72) (q := (⟨"UniverseLevelsModel", "greatest", "()I"⟩, 24)) rfl
theorem kw_288 : Cond.methodLink RX7 212 yX7_floatingMany ∈ lw_tbl := tb4 (i := 190) rfl
theorem kw_289 : cwOk yX7_floatingMany cX7_floatingMany 3 (some .int) 0 := ⟨tb4 (i := 193) rfl, tb1 (i := 15) rfl, by decide, by decide, by decide +kernel⟩
theorem kw_290 : Cond.instanceMethod yX7_floatingMany ∈ lw_tbl := tb4 (i := 192) rfl
theorem kw_291 : Cond.selects RX7 yX7_floatingMany yX7_floatingMany ∈ lw_tbl := tsel (i := 73) (q := (⟨"UniverseLevelsModel", "floatingMany", "()I"⟩, 24)) rfl
theorem kw_292 : Cond.methodLink RX7 215 yX7_pairs ∈ lw_tbl := tb4 (i := 194) rfl
theorem kw_293 : cwOk yX7_pairs cX7_pairs 4 (some .int) 0 := ⟨tb4 (i := 197) rfl, tb1 (i := 15) rfl, by decide, by decide, by decide +kernel⟩
theorem kw_294 : Cond.instanceMethod yX7_pairs ∈ lw_tbl := tb4 (i := 196) rfl
theorem kw_295 : Cond.selects RX7 yX7_pairs yX7_pairs ∈ lw_tbl := tsel (i := 74) (q := (⟨"UniverseLevelsModel", "pairs", "()I"⟩, 24)) rfl
section
def W_X7_empty (cI cS cII : ClassId) (DA : Nat → Nat) (D_length : Int32) (D_text : Nat → Int32) (D_levels : Int32) (D_readLevels : Int32) (D_readAsked : Int32) (D_asked : Nat → Int32) (D_readKinds : Nat → Int32) (D_now : Nat → Int32) (D_before : Nat → Int32) (D_undoMany : Int32) (D_kept : Nat → Int32) (D_keptMany : Int32) (D_refused : Int32) (D_roundMany : Int32) (D_roundOver : Int32) (D_round : Nat → Int32) (D_terms : Int32) (D_termLevel : Nat → Int32) (D_termAdd : Nat → Int32) (D_spot : Int32) (D_number : Nat → Int32) (D_reach : Nat → Int32) (D_edge : Nat → Int32) (D_by : Nat → Int32) : va_W := [((DA 0), .inr (7, [.int D_length, .ref (DA 1), .int D_levels, .int D_readLevels, .int D_readAsked, .ref (DA 2), .ref (DA 3), .ref (DA 4), .ref (DA 5), .int D_undoMany, .ref (DA 6), .int D_keptMany, .int D_refused, .int D_roundMany, .int D_roundOver, .ref (DA 7), .int D_terms, .ref (DA 8), .ref (DA 9), .int D_spot, .ref (DA 10), .ref (DA 11), .ref (DA 12), .ref (DA 13)])), ((DA 1), .inl (cI, 200, .inl D_text)), ((DA 2), .inl (cI, 160, .inl D_asked)), ((DA 3), .inl (cI, 10, .inl D_readKinds)), ((DA 4), .inl (cI, 59, .inl D_now)), ((DA 5), .inl (cI, 472, .inl D_before)), ((DA 6), .inl (cI, 118, .inl D_kept)), ((DA 7), .inl (cI, 12, .inl D_round)), ((DA 8), .inl (cI, 6, .inl D_termLevel)), ((DA 9), .inl (cI, 6, .inl D_termAdd)), ((DA 10), .inl (cI, 3, .inl D_number)), ((DA 11), .inl (cI, 100, .inl D_reach)), ((DA 12), .inl (cI, 100, .inl D_edge)), ((DA 13), .inl (cI, 110, .inl D_by))]
abbrev Rm_X7_empty : Room := { frames := 0, cells := 0, slots := 0, locals := 0 }
variable {l : Launch} {D : va_G} {cI cS cII : ClassId} {DA : Nat → Nat} {A : Nat → Prop} {J : jT}
variable {z_r : Int32} {z_D_terms : Int32}
def p_X7_empty (D_terms : Int32) : Option (Int32 × Int32) := some (D_terms, 0)
end
set_option maxRecDepth 100000 in
theorem c_X7_empty (l : Launch) (D : va_G) (cI cS cII : ClassId) (DA : Nat → Nat) (D_length : Int32) (D_text : Nat → Int32) (D_levels : Int32) (D_readLevels : Int32) (D_readAsked : Int32) (D_asked : Nat → Int32) (D_readKinds : Nat → Int32) (D_now : Nat → Int32) (D_before : Nat → Int32) (D_undoMany : Int32) (D_kept : Nat → Int32) (D_keptMany : Int32) (D_refused : Int32) (D_roundMany : Int32) (D_roundOver : Int32) (D_round : Nat → Int32) (D_terms : Int32) (D_termLevel : Nat → Int32) (D_termAdd : Nat → Int32) (D_spot : Int32) (D_number : Nat → Int32) (D_reach : Nat → Int32) (D_edge : Nat → Int32) (D_by : Nat → Int32)  {z_r : Int32} {z_D_terms : Int32} (hF : p_X7_empty D_terms = some (z_r, z_D_terms)) : MJ l yX7_empty cX7_empty 2 (some .int) Rm_X7_empty D (tysU cI cS cII) [.ref (DA 0)] (W_X7_empty cI cS cII DA D_length D_text D_levels D_readLevels D_readAsked D_asked D_readKinds D_now D_before D_undoMany D_kept D_keptMany D_refused D_roundMany D_roundOver D_round D_terms D_termLevel D_termAdd D_spot D_number D_reach D_edge D_by) (some z_r) (W_X7_empty cI cS cII DA D_length D_text D_levels D_readLevels D_readAsked D_asked D_readKinds D_now D_before D_undoMany D_kept D_keptMany D_refused D_roundMany D_roundOver D_round z_D_terms D_termLevel D_termAdd D_spot D_number D_reach D_edge D_by) := by
  refine mj_of (own := RX7) (by decide) rfl (Nat.le_of_ble_eq_true rfl) (fun J hJ => ?_)
  show J (W_X7_empty cI cS cII DA D_length D_text D_levels D_readLevels D_readAsked D_asked D_readKinds D_now D_before D_undoMany D_kept D_keptMany D_refused D_roundMany D_roundOver D_round D_terms D_termLevel D_termAdd D_spot D_number D_reach D_edge D_by) 0 [(0, .ref (DA 0))] []
  unfold p_X7_empty at hF
  refine jj_aload_n hJ dX7_empty_0 0 rfl rfl ?_
  refine jj_get hJ lay_X7 dX7_empty_1 0 16 rfl rfl (Nat.le_of_ble_eq_true rfl) kw_222 rfl ?_
  refine jj_istore_n hJ dX7_empty_4 rfl (Nat.le_of_ble_eq_true rfl) (lv' := [(1, .int D_terms), (0, .ref (DA 0))]) rfl ?_
  refine jj_aload_n hJ dX7_empty_5 1 rfl rfl ?_
  refine jj_iconst hJ dX7_empty_6 ic_0 ?_
  refine jj_puti hJ lay_X7 tyX7 tyX7_ok nmX7 dX7_empty_7 0 16 rfl rfl (Nat.le_of_ble_eq_true rfl) kw_222 rfl rfl (Nat.le_of_ble_eq_true rfl) (wn := (W_X7_empty cI cS cII DA D_length D_text D_levels D_readLevels D_readAsked D_asked D_readKinds D_now D_before D_undoMany D_kept D_keptMany D_refused D_roundMany D_roundOver D_round 0 D_termLevel D_termAdd D_spot D_number D_reach D_edge D_by)) rfl ?_
  refine jj_iload_n hJ dX7_empty_10 0 rfl rfl ?_
  cases Option.some.inj hF
  exact jj_iret hJ dX7_empty_11
section
def W_X7_isNoMore (cI cS cII : ClassId) (DA : Nat → Nat) (D_length : Int32) (D_text : Nat → Int32) (D_levels : Int32) (D_readLevels : Int32) (D_readAsked : Int32) (D_asked : Nat → Int32) (D_readKinds : Nat → Int32) (D_now : Nat → Int32) (D_before : Nat → Int32) (D_undoMany : Int32) (D_kept : Nat → Int32) (D_keptMany : Int32) (D_refused : Int32) (D_roundMany : Int32) (D_roundOver : Int32) (D_round : Nat → Int32) (D_terms : Int32) (D_termLevel : Nat → Int32) (D_termAdd : Nat → Int32) (D_spot : Int32) (D_number : Nat → Int32) (D_reach : Nat → Int32) (D_edge : Nat → Int32) (D_by : Nat → Int32) : va_W := [((DA 0), .inr (7, [.int D_length, .ref (DA 1), .int D_levels, .int D_readLevels, .int D_readAsked, .ref (DA 2), .ref (DA 3), .ref (DA 4), .ref (DA 5), .int D_undoMany, .ref (DA 6), .int D_keptMany, .int D_refused, .int D_roundMany, .int D_roundOver, .ref (DA 7), .int D_terms, .ref (DA 8), .ref (DA 9), .int D_spot, .ref (DA 10), .ref (DA 11), .ref (DA 12), .ref (DA 13)])), ((DA 1), .inl (cI, 200, .inl D_text)), ((DA 2), .inl (cI, 160, .inl D_asked)), ((DA 3), .inl (cI, 10, .inl D_readKinds)), ((DA 4), .inl (cI, 59, .inl D_now)), ((DA 5), .inl (cI, 472, .inl D_before)), ((DA 6), .inl (cI, 118, .inl D_kept)), ((DA 7), .inl (cI, 12, .inl D_round)), ((DA 8), .inl (cI, 6, .inl D_termLevel)), ((DA 9), .inl (cI, 6, .inl D_termAdd)), ((DA 10), .inl (cI, 3, .inl D_number)), ((DA 11), .inl (cI, 100, .inl D_reach)), ((DA 12), .inl (cI, 100, .inl D_edge)), ((DA 13), .inl (cI, 110, .inl D_by))]
abbrev Rm_X7_isNoMore : Room := { frames := 2, cells := 0, slots := 0, locals := 43 }
variable {l : Launch} {D : va_G} {cI cS cII : ClassId} {DA : Nat → Nat} {A : Nat → Prop} {J : jT}
variable {z_r : Int32}
def p_X7_isNoMore (D_termLevel : Nat → Int32) (D_termAdd : Nat → Int32) (D_reach : Nat → Int32) (a1 : Int32) (a2 : Int32) : Option (Int32) := (rd D_termLevel 6 a1).bind fun x1 => (rd D_termAdd 6 a1).bind fun x3 => (rd D_termAdd 6 a2).bind fun x5 => (rd D_termLevel 6 a2).bind fun x7 => (p_X7_isSo D_reach x1 (x3 - x5) x7).bind fun r10 => (bz r10).bind fun _ => some r10
end
set_option maxRecDepth 100000 in
theorem c_X7_isNoMore (l : Launch) (D : va_G) (cI cS cII : ClassId) (DA : Nat → Nat) (D_length : Int32) (D_text : Nat → Int32) (D_levels : Int32) (D_readLevels : Int32) (D_readAsked : Int32) (D_asked : Nat → Int32) (D_readKinds : Nat → Int32) (D_now : Nat → Int32) (D_before : Nat → Int32) (D_undoMany : Int32) (D_kept : Nat → Int32) (D_keptMany : Int32) (D_refused : Int32) (D_roundMany : Int32) (D_roundOver : Int32) (D_round : Nat → Int32) (D_terms : Int32) (D_termLevel : Nat → Int32) (D_termAdd : Nat → Int32) (D_spot : Int32) (D_number : Nat → Int32) (D_reach : Nat → Int32) (D_edge : Nat → Int32) (D_by : Nat → Int32) (a1 : Int32) (a2 : Int32) {z_r : Int32} (hF : p_X7_isNoMore D_termLevel D_termAdd D_reach a1 a2 = some z_r) : MJ l yX7_isNoMore cX7_isNoMore 3 (some .boolean) Rm_X7_isNoMore D (tysU cI cS cII) [.ref (DA 0), .int a1, .int a2] (W_X7_isNoMore cI cS cII DA D_length D_text D_levels D_readLevels D_readAsked D_asked D_readKinds D_now D_before D_undoMany D_kept D_keptMany D_refused D_roundMany D_roundOver D_round D_terms D_termLevel D_termAdd D_spot D_number D_reach D_edge D_by) (some z_r) (W_X7_isNoMore cI cS cII DA D_length D_text D_levels D_readLevels D_readAsked D_asked D_readKinds D_now D_before D_undoMany D_kept D_keptMany D_refused D_roundMany D_roundOver D_round D_terms D_termLevel D_termAdd D_spot D_number D_reach D_edge D_by) := by
  refine mj_of (own := RX7) (by decide) rfl (Nat.le_of_ble_eq_true rfl) (fun J hJ => ?_)
  show J (W_X7_isNoMore cI cS cII DA D_length D_text D_levels D_readLevels D_readAsked D_asked D_readKinds D_now D_before D_undoMany D_kept D_keptMany D_refused D_roundMany D_roundOver D_round D_terms D_termLevel D_termAdd D_spot D_number D_reach D_edge D_by) 0 [(0, .ref (DA 0)), (1, .int a1), (2, .int a2)] []
  unfold p_X7_isNoMore at hF
  refine jj_aload_n hJ dX7_isNoMore_0 0 rfl rfl ?_
  refine jj_aload_n hJ dX7_isNoMore_1 0 rfl rfl ?_
  refine jj_get hJ lay_X7 dX7_isNoMore_2 0 17 rfl rfl (Nat.le_of_ble_eq_true rfl) kw_273 rfl ?_
  refine jj_iload_n hJ dX7_isNoMore_5 1 rfl rfl ?_
  obtain ⟨x1, h2, hF⟩ := ob hF
  refine jj_iald hJ dX7_isNoMore_6 8 0 rfl rfl h2 ?_
  refine jj_aload_n hJ dX7_isNoMore_7 0 rfl rfl ?_
  refine jj_get hJ lay_X7 dX7_isNoMore_8 0 18 rfl rfl (Nat.le_of_ble_eq_true rfl) kw_274 rfl ?_
  refine jj_iload_n hJ dX7_isNoMore_11 1 rfl rfl ?_
  obtain ⟨x3, h4, hF⟩ := ob hF
  refine jj_iald hJ dX7_isNoMore_12 9 0 rfl rfl h4 ?_
  refine jj_aload_n hJ dX7_isNoMore_13 0 rfl rfl ?_
  refine jj_get hJ lay_X7 dX7_isNoMore_14 0 18 rfl rfl (Nat.le_of_ble_eq_true rfl) kw_274 rfl ?_
  refine jj_iload_n hJ dX7_isNoMore_17 2 rfl rfl ?_
  obtain ⟨x5, h6, hF⟩ := ob hF
  refine jj_iald hJ dX7_isNoMore_18 9 0 rfl rfl h6 ?_
  refine jj_isub hJ dX7_isNoMore_19 ?_
  refine jj_aload_n hJ dX7_isNoMore_20 0 rfl rfl ?_
  refine jj_get hJ lay_X7 dX7_isNoMore_21 0 17 rfl rfl (Nat.le_of_ble_eq_true rfl) kw_273 rfl ?_
  refine jj_iload_n hJ dX7_isNoMore_24 2 rfl rfl ?_
  obtain ⟨x7, h8, hF⟩ := ob hF
  refine jj_iald hJ dX7_isNoMore_25 8 0 rfl rfl h8 ?_
  obtain ⟨r10, h9, hF⟩ := ob hF
  refine jj_callV0 hJ (c_X7_isSo l D cI cS cII DA D_length D_text D_levels D_readLevels D_readAsked D_asked D_readKinds D_now D_before D_undoMany D_kept D_keptMany D_refused D_roundMany D_roundOver D_round D_terms D_termLevel D_termAdd D_spot D_number D_reach D_edge D_by x1 (x3 - x5) x7 h9) dX7_isNoMore_26 kw_260 ⟨Nat.le_of_ble_eq_true rfl, Nat.le_of_ble_eq_true rfl, rfl, rfl⟩ kw_259 kw_261 kw_262 0 rfl rfl rfl rfl (Nat.le_of_ble_eq_true rfl) [0, 1, 2, 3, 4, 5, 6, 7, 8, 9, 10, 11, 12, 13] rfl rfl ?_
  obtain ⟨_, b11, hF⟩ := ob hF
  cases Option.some.inj hF
  exact jj_zret hJ (bz_some b11) dX7_isNoMore_29
section
def W_X7_brief (cI cS cII : ClassId) (DA : Nat → Nat) (D_length : Int32) (D_text : Nat → Int32) (D_levels : Int32) (D_readLevels : Int32) (D_readAsked : Int32) (D_asked : Nat → Int32) (D_readKinds : Nat → Int32) (D_now : Nat → Int32) (D_before : Nat → Int32) (D_undoMany : Int32) (D_kept : Nat → Int32) (D_keptMany : Int32) (D_refused : Int32) (D_roundMany : Int32) (D_roundOver : Int32) (D_round : Nat → Int32) (D_terms : Int32) (D_termLevel : Nat → Int32) (D_termAdd : Nat → Int32) (D_spot : Int32) (D_number : Nat → Int32) (D_reach : Nat → Int32) (D_edge : Nat → Int32) (D_by : Nat → Int32) : va_W := [((DA 0), .inr (7, [.int D_length, .ref (DA 1), .int D_levels, .int D_readLevels, .int D_readAsked, .ref (DA 2), .ref (DA 3), .ref (DA 4), .ref (DA 5), .int D_undoMany, .ref (DA 6), .int D_keptMany, .int D_refused, .int D_roundMany, .int D_roundOver, .ref (DA 7), .int D_terms, .ref (DA 8), .ref (DA 9), .int D_spot, .ref (DA 10), .ref (DA 11), .ref (DA 12), .ref (DA 13)])), ((DA 1), .inl (cI, 200, .inl D_text)), ((DA 2), .inl (cI, 160, .inl D_asked)), ((DA 3), .inl (cI, 10, .inl D_readKinds)), ((DA 4), .inl (cI, 59, .inl D_now)), ((DA 5), .inl (cI, 472, .inl D_before)), ((DA 6), .inl (cI, 118, .inl D_kept)), ((DA 7), .inl (cI, 12, .inl D_round)), ((DA 8), .inl (cI, 6, .inl D_termLevel)), ((DA 9), .inl (cI, 6, .inl D_termAdd)), ((DA 10), .inl (cI, 3, .inl D_number)), ((DA 11), .inl (cI, 100, .inl D_reach)), ((DA 12), .inl (cI, 100, .inl D_edge)), ((DA 13), .inl (cI, 110, .inl D_by))]
abbrev Rm_X7_brief : Room := { frames := 3, cells := 0, slots := 0, locals := 67 }
variable {l : Launch} {D : va_G} {cI cS cII : ClassId} {DA : Nat → Nat} {A : Nat → Prop} {J : jT}
variable {z_r : Int32} {z_D_reach : Nat → Int32} {z_D_edge : Nat → Int32}
def q_X7_brief_78 (D_levels : Int32) (D_now : Nat → Int32) (D_terms : Int32) (D_termLevel : Nat → Int32) (D_termAdd : Nat → Int32) (k8 : Int32 → Int32 → (Nat → Int32) → (Nat → Int32) → Option (Int32 × (Nat → Int32) × (Nat → Int32))) (v3 : Int32) (v2 : Int32) (v1 : Int32) (D_reach : Nat → Int32) (D_edge : Nat → Int32) : Option (Int32 × (Nat → Int32) × (Nat → Int32)) := if v3 = 0 then (k8 (v2 + 1) (v1 ||| (1 <<< (v2 &&& 31))) D_reach D_edge) else (k8 (v2 + 1) (v1 ||| 0) D_reach D_edge)
set_option maxRecDepth 100000 in
theorem w_X7_brief_78 {D_length : Int32} {D_text : Nat → Int32} {D_levels : Int32} {D_readLevels : Int32} {D_readAsked : Int32} {D_asked : Nat → Int32} {D_readKinds : Nat → Int32} {D_now : Nat → Int32} {D_before : Nat → Int32} {D_undoMany : Int32} {D_kept : Nat → Int32} {D_keptMany : Int32} {D_refused : Int32} {D_roundMany : Int32} {D_roundOver : Int32} {D_round : Nat → Int32} {D_terms : Int32} {D_termLevel : Nat → Int32} {D_termAdd : Nat → Int32} {D_spot : Int32} {D_number : Nat → Int32} {D_by : Nat → Int32}  {k8 : Int32 → Int32 → (Nat → Int32) → (Nat → Int32) → Option (Int32 × (Nat → Int32) × (Nat → Int32))} (hJ : jJ l cX7_brief 5 D (tysU cI cS cII) RX7 Rm_X7_brief (some .int) A (some z_r) (W_X7_brief cI cS cII DA D_length D_text D_levels D_readLevels D_readAsked D_asked D_readKinds D_now D_before D_undoMany D_kept D_keptMany D_refused D_roundMany D_roundOver D_round D_terms D_termLevel D_termAdd D_spot D_number z_D_reach z_D_edge D_by) J) (hk8 : ∀ (v2 : Int32) (v1 : Int32) (D_reach : Nat → Int32) (D_edge : Nat → Int32), k8 v2 v1 D_reach D_edge = some (z_r, z_D_reach, z_D_edge) → J (W_X7_brief cI cS cII DA D_length D_text D_levels D_readLevels D_readAsked D_asked D_readKinds D_now D_before D_undoMany D_kept D_keptMany D_refused D_roundMany D_roundOver D_round D_terms D_termLevel D_termAdd D_spot D_number D_reach D_edge D_by) 8 [(2, .int v2), (1, .int v1), (0, .ref (DA 0))] []) : ∀ (v3 : Int32) (v2 : Int32) (v1 : Int32) (D_reach : Nat → Int32) (D_edge : Nat → Int32), q_X7_brief_78 D_levels D_now D_terms D_termLevel D_termAdd k8 v3 v2 v1 D_reach D_edge = some (z_r, z_D_reach, z_D_edge) → J (W_X7_brief cI cS cII DA D_length D_text D_levels D_readLevels D_readAsked D_asked D_readKinds D_now D_before D_undoMany D_kept D_keptMany D_refused D_roundMany D_roundOver D_round D_terms D_termLevel D_termAdd D_spot D_number D_reach D_edge D_by) 78 [(3, .int v3), (2, .int v2), (1, .int v1), (0, .ref (DA 0))] [] := by
  intro v3 v2 v1 D_reach D_edge hF
  unfold q_X7_brief_78 at hF
  refine jj_iload_n hJ dX7_brief_78 2 rfl rfl ?_
  refine jj_iload_n hJ dX7_brief_79 0 rfl rfl ?_
  refine jj_if_eq hJ 87 dX7_brief_80 rfl (fun c1 => ?_) (fun c1 => ?_)
  · replace hF := ip c1 hF
    refine jj_iconst hJ dX7_brief_87 ic_1 ?_
    refine jj_iload_n hJ dX7_brief_88 1 rfl rfl ?_
    refine jj_ishl hJ dX7_brief_89 ?_
    refine jj_ior hJ dX7_brief_90 ?_
    refine jj_istore_n hJ dX7_brief_91 rfl (Nat.le_of_ble_eq_true rfl) (lv' := [(1, .int (v1 ||| (1 <<< (v2 &&& 31)))), (3, .int v3), (2, .int v2), (0, .ref (DA 0))]) rfl ?_
    refine jj_iinc hJ dX7_brief_92 2 rfl (v := v2 + 1) (by rw [ic_1]) (Nat.le_of_ble_eq_true rfl) (lv' := [(2, .int (v2 + 1)), (1, .int (v1 ||| (1 <<< (v2 &&& 31)))), (3, .int v3), (0, .ref (DA 0))]) rfl ?_
    refine jj_goto hJ 8 dX7_brief_95 rfl ?_
    refine jj_lv hJ [0, 1, 3] (lv' := [(2, .int (v2 + 1)), (1, .int (v1 ||| (1 <<< (v2 &&& 31)))), (0, .ref (DA 0))]) rfl ?_
    exact hk8 (v2 + 1) (v1 ||| (1 <<< (v2 &&& 31))) D_reach D_edge hF
  · replace hF := iq c1 hF
    refine jj_iconst hJ dX7_brief_83 ic_0 ?_
    refine jj_goto hJ 90 dX7_brief_84 rfl ?_
    refine jj_ior hJ dX7_brief_90 ?_
    refine jj_istore_n hJ dX7_brief_91 rfl (Nat.le_of_ble_eq_true rfl) (lv' := [(1, .int (v1 ||| 0)), (3, .int v3), (2, .int v2), (0, .ref (DA 0))]) rfl ?_
    refine jj_iinc hJ dX7_brief_92 2 rfl (v := v2 + 1) (by rw [ic_1]) (Nat.le_of_ble_eq_true rfl) (lv' := [(2, .int (v2 + 1)), (1, .int (v1 ||| 0)), (3, .int v3), (0, .ref (DA 0))]) rfl ?_
    refine jj_goto hJ 8 dX7_brief_95 rfl ?_
    refine jj_lv hJ [0, 1, 3] (lv' := [(2, .int (v2 + 1)), (1, .int (v1 ||| 0)), (0, .ref (DA 0))]) rfl ?_
    exact hk8 (v2 + 1) (v1 ||| 0) D_reach D_edge hF
def q_X7_brief_21 (D_levels : Int32) (D_now : Nat → Int32) (D_terms : Int32) (D_termLevel : Nat → Int32) (D_termAdd : Nat → Int32) (k8 : Int32 → Int32 → (Nat → Int32) → (Nat → Int32) → Option (Int32 × (Nat → Int32) × (Nat → Int32))) : Nat → Int32 → Int32 → Int32 → Int32 → (Nat → Int32) → (Nat → Int32) → Option (Int32 × (Nat → Int32) × (Nat → Int32))
  | 0, _, _, _, _, _, _ => none
  | n + 1, v4, v3, v2, v1, D_reach, D_edge => if D_terms ≤ v4 then (q_X7_brief_78 D_levels D_now D_terms D_termLevel D_termAdd k8 v3 v2 v1 D_reach D_edge) else (if v3 = 0 then (if v2 = v4 then (q_X7_brief_21 D_levels D_now D_terms D_termLevel D_termAdd k8 n (v4 + 1) 0 v2 v1 D_reach D_edge) else ((p_X7_isNoMore D_termLevel D_termAdd D_reach v2 v4).bind fun r5 => if r5 = 0 then (q_X7_brief_21 D_levels D_now D_terms D_termLevel D_termAdd k8 n (v4 + 1) 0 v2 v1 D_reach D_edge) else (if v4 < v2 then (q_X7_brief_21 D_levels D_now D_terms D_termLevel D_termAdd k8 n (v4 + 1) 1 v2 v1 D_reach D_edge) else ((p_X7_isNoMore D_termLevel D_termAdd D_reach v4 v2).bind fun r9 => if r9 = 0 then (q_X7_brief_21 D_levels D_now D_terms D_termLevel D_termAdd k8 n (v4 + 1) 1 v2 v1 D_reach D_edge) else (q_X7_brief_21 D_levels D_now D_terms D_termLevel D_termAdd k8 n (v4 + 1) 0 v2 v1 D_reach D_edge))))) else (q_X7_brief_21 D_levels D_now D_terms D_termLevel D_termAdd k8 n (v4 + 1) 1 v2 v1 D_reach D_edge))
set_option maxRecDepth 100000 in
theorem w_X7_brief_21 {D_length : Int32} {D_text : Nat → Int32} {D_levels : Int32} {D_readLevels : Int32} {D_readAsked : Int32} {D_asked : Nat → Int32} {D_readKinds : Nat → Int32} {D_now : Nat → Int32} {D_before : Nat → Int32} {D_undoMany : Int32} {D_kept : Nat → Int32} {D_keptMany : Int32} {D_refused : Int32} {D_roundMany : Int32} {D_roundOver : Int32} {D_round : Nat → Int32} {D_terms : Int32} {D_termLevel : Nat → Int32} {D_termAdd : Nat → Int32} {D_spot : Int32} {D_number : Nat → Int32} {D_by : Nat → Int32}  {k8 : Int32 → Int32 → (Nat → Int32) → (Nat → Int32) → Option (Int32 × (Nat → Int32) × (Nat → Int32))} (hJ : jJ l cX7_brief 5 D (tysU cI cS cII) RX7 Rm_X7_brief (some .int) A (some z_r) (W_X7_brief cI cS cII DA D_length D_text D_levels D_readLevels D_readAsked D_asked D_readKinds D_now D_before D_undoMany D_kept D_keptMany D_refused D_roundMany D_roundOver D_round D_terms D_termLevel D_termAdd D_spot D_number z_D_reach z_D_edge D_by) J) (hk8 : ∀ (v2 : Int32) (v1 : Int32) (D_reach : Nat → Int32) (D_edge : Nat → Int32), k8 v2 v1 D_reach D_edge = some (z_r, z_D_reach, z_D_edge) → J (W_X7_brief cI cS cII DA D_length D_text D_levels D_readLevels D_readAsked D_asked D_readKinds D_now D_before D_undoMany D_kept D_keptMany D_refused D_roundMany D_roundOver D_round D_terms D_termLevel D_termAdd D_spot D_number D_reach D_edge D_by) 8 [(2, .int v2), (1, .int v1), (0, .ref (DA 0))] []) : ∀ (n : Nat) (v4 : Int32) (v3 : Int32) (v2 : Int32) (v1 : Int32) (D_reach : Nat → Int32) (D_edge : Nat → Int32), q_X7_brief_21 D_levels D_now D_terms D_termLevel D_termAdd k8 n v4 v3 v2 v1 D_reach D_edge = some (z_r, z_D_reach, z_D_edge) → J (W_X7_brief cI cS cII DA D_length D_text D_levels D_readLevels D_readAsked D_asked D_readKinds D_now D_before D_undoMany D_kept D_keptMany D_refused D_roundMany D_roundOver D_round D_terms D_termLevel D_termAdd D_spot D_number D_reach D_edge D_by) 21 [(4, .int v4), (3, .int v3), (2, .int v2), (1, .int v1), (0, .ref (DA 0))] [] := by
  intro n
  induction n with
  | zero =>
    intro v4 v3 v2 v1 D_reach D_edge hF
    exact no_some (show (none : Option (Int32 × (Nat → Int32) × (Nat → Int32))) = some (z_r, z_D_reach, z_D_edge) from hF)
  | succ n ih =>
    intro v4 v3 v2 v1 D_reach D_edge hF
    rw [q_X7_brief_21.eq_2] at hF
    refine jj_iload hJ dX7_brief_21 0 rfl ?_
    refine jj_aload_n hJ dX7_brief_23 4 rfl rfl ?_
    refine jj_get hJ lay_X7 dX7_brief_24 0 16 rfl rfl (Nat.le_of_ble_eq_true rfl) kw_222 rfl ?_
    refine jj_icmp_ge hJ 78 dX7_brief_27 rfl (fun c1 => ?_) (fun c1 => ?_)
    · replace hF := ip c1 hF
      refine jj_lv hJ [1, 2, 3, 4] (lv' := [(3, .int v3), (2, .int v2), (1, .int v1), (0, .ref (DA 0))]) rfl ?_
      exact w_X7_brief_78 hJ hk8 v3 v2 v1 D_reach D_edge hF
    · replace hF := iq c1 hF
      refine jj_iload_n hJ dX7_brief_30 1 rfl rfl ?_
      refine jj_if_ne hJ 66 dX7_brief_31 rfl (fun c2 => ?_) (fun c2 => ?_)
      · replace hF := iq c2 hF
        refine jj_iconst hJ dX7_brief_66 ic_1 ?_
        refine jj_goto hJ 71 dX7_brief_67 rfl ?_
        refine jj_istore_n hJ dX7_brief_71 rfl (Nat.le_of_ble_eq_true rfl) (lv' := [(3, .int 1), (4, .int v4), (2, .int v2), (1, .int v1), (0, .ref (DA 0))]) rfl ?_
        refine jj_iinc hJ dX7_brief_72 1 rfl (v := v4 + 1) (by rw [ic_1]) (Nat.le_of_ble_eq_true rfl) (lv' := [(4, .int (v4 + 1)), (3, .int 1), (2, .int v2), (1, .int v1), (0, .ref (DA 0))]) rfl ?_
        refine jj_goto hJ 21 dX7_brief_75 rfl ?_
        exact ih (v4 + 1) 1 v2 v1 D_reach D_edge hF
      · replace hF := ip c2 hF
        refine jj_iload_n hJ dX7_brief_34 2 rfl rfl ?_
        refine jj_iload hJ dX7_brief_35 0 rfl ?_
        refine jj_icmp_eq hJ 70 dX7_brief_37 rfl (fun c3 => ?_) (fun c3 => ?_)
        · replace hF := ip c3 hF
          refine jj_iconst hJ dX7_brief_70 ic_0 ?_
          refine jj_istore_n hJ dX7_brief_71 rfl (Nat.le_of_ble_eq_true rfl) (lv' := [(3, .int 0), (4, .int v4), (2, .int v2), (1, .int v1), (0, .ref (DA 0))]) rfl ?_
          refine jj_iinc hJ dX7_brief_72 1 rfl (v := v4 + 1) (by rw [ic_1]) (Nat.le_of_ble_eq_true rfl) (lv' := [(4, .int (v4 + 1)), (3, .int 0), (2, .int v2), (1, .int v1), (0, .ref (DA 0))]) rfl ?_
          refine jj_goto hJ 21 dX7_brief_75 rfl ?_
          exact ih (v4 + 1) 0 v2 v1 D_reach D_edge hF
        · replace hF := iq c3 hF
          refine jj_aload_n hJ dX7_brief_40 4 rfl rfl ?_
          refine jj_iload_n hJ dX7_brief_41 2 rfl rfl ?_
          refine jj_iload hJ dX7_brief_42 0 rfl ?_
          obtain ⟨r5, h4, hF⟩ := ob hF
          refine jj_callV0 hJ (c_X7_isNoMore l D cI cS cII DA D_length D_text D_levels D_readLevels D_readAsked D_asked D_readKinds D_now D_before D_undoMany D_kept D_keptMany D_refused D_roundMany D_roundOver D_round D_terms D_termLevel D_termAdd D_spot D_number D_reach D_edge D_by v2 v4 h4) dX7_brief_44 kw_276 ⟨Nat.le_of_ble_eq_true rfl, Nat.le_of_ble_eq_true rfl, rfl, rfl⟩ kw_275 kw_277 kw_278 0 rfl rfl rfl rfl (Nat.le_of_ble_eq_true rfl) [0, 1, 2, 3, 4, 5, 6, 7, 8, 9, 10, 11, 12, 13] rfl rfl ?_
          refine jj_if_eq hJ 70 dX7_brief_47 rfl (fun c6 => ?_) (fun c6 => ?_)
          · replace hF := ip c6 hF
            refine jj_iconst hJ dX7_brief_70 ic_0 ?_
            refine jj_istore_n hJ dX7_brief_71 rfl (Nat.le_of_ble_eq_true rfl) (lv' := [(3, .int 0), (4, .int v4), (2, .int v2), (1, .int v1), (0, .ref (DA 0))]) rfl ?_
            refine jj_iinc hJ dX7_brief_72 1 rfl (v := v4 + 1) (by rw [ic_1]) (Nat.le_of_ble_eq_true rfl) (lv' := [(4, .int (v4 + 1)), (3, .int 0), (2, .int v2), (1, .int v1), (0, .ref (DA 0))]) rfl ?_
            refine jj_goto hJ 21 dX7_brief_75 rfl ?_
            exact ih (v4 + 1) 0 v2 v1 D_reach D_edge hF
          · replace hF := iq c6 hF
            refine jj_iload hJ dX7_brief_50 0 rfl ?_
            refine jj_iload_n hJ dX7_brief_52 2 rfl rfl ?_
            refine jj_icmp_lt hJ 66 dX7_brief_53 rfl (fun c7 => ?_) (fun c7 => ?_)
            · replace hF := ip c7 hF
              refine jj_iconst hJ dX7_brief_66 ic_1 ?_
              refine jj_goto hJ 71 dX7_brief_67 rfl ?_
              refine jj_istore_n hJ dX7_brief_71 rfl (Nat.le_of_ble_eq_true rfl) (lv' := [(3, .int 1), (4, .int v4), (2, .int v2), (1, .int v1), (0, .ref (DA 0))]) rfl ?_
              refine jj_iinc hJ dX7_brief_72 1 rfl (v := v4 + 1) (by rw [ic_1]) (Nat.le_of_ble_eq_true rfl) (lv' := [(4, .int (v4 + 1)), (3, .int 1), (2, .int v2), (1, .int v1), (0, .ref (DA 0))]) rfl ?_
              refine jj_goto hJ 21 dX7_brief_75 rfl ?_
              exact ih (v4 + 1) 1 v2 v1 D_reach D_edge hF
            · replace hF := iq c7 hF
              refine jj_aload_n hJ dX7_brief_56 4 rfl rfl ?_
              refine jj_iload hJ dX7_brief_57 0 rfl ?_
              refine jj_iload_n hJ dX7_brief_59 2 rfl rfl ?_
              obtain ⟨r9, h8, hF⟩ := ob hF
              refine jj_callV0 hJ (c_X7_isNoMore l D cI cS cII DA D_length D_text D_levels D_readLevels D_readAsked D_asked D_readKinds D_now D_before D_undoMany D_kept D_keptMany D_refused D_roundMany D_roundOver D_round D_terms D_termLevel D_termAdd D_spot D_number D_reach D_edge D_by v4 v2 h8) dX7_brief_60 kw_276 ⟨Nat.le_of_ble_eq_true rfl, Nat.le_of_ble_eq_true rfl, rfl, rfl⟩ kw_275 kw_277 kw_278 0 rfl rfl rfl rfl (Nat.le_of_ble_eq_true rfl) [0, 1, 2, 3, 4, 5, 6, 7, 8, 9, 10, 11, 12, 13] rfl rfl ?_
              refine jj_if_ne hJ 70 dX7_brief_63 rfl (fun c10 => ?_) (fun c10 => ?_)
              · replace hF := iq c10 hF
                refine jj_iconst hJ dX7_brief_70 ic_0 ?_
                refine jj_istore_n hJ dX7_brief_71 rfl (Nat.le_of_ble_eq_true rfl) (lv' := [(3, .int 0), (4, .int v4), (2, .int v2), (1, .int v1), (0, .ref (DA 0))]) rfl ?_
                refine jj_iinc hJ dX7_brief_72 1 rfl (v := v4 + 1) (by rw [ic_1]) (Nat.le_of_ble_eq_true rfl) (lv' := [(4, .int (v4 + 1)), (3, .int 0), (2, .int v2), (1, .int v1), (0, .ref (DA 0))]) rfl ?_
                refine jj_goto hJ 21 dX7_brief_75 rfl ?_
                exact ih (v4 + 1) 0 v2 v1 D_reach D_edge hF
              · replace hF := ip c10 hF
                refine jj_iconst hJ dX7_brief_66 ic_1 ?_
                refine jj_goto hJ 71 dX7_brief_67 rfl ?_
                refine jj_istore_n hJ dX7_brief_71 rfl (Nat.le_of_ble_eq_true rfl) (lv' := [(3, .int 1), (4, .int v4), (2, .int v2), (1, .int v1), (0, .ref (DA 0))]) rfl ?_
                refine jj_iinc hJ dX7_brief_72 1 rfl (v := v4 + 1) (by rw [ic_1]) (Nat.le_of_ble_eq_true rfl) (lv' := [(4, .int (v4 + 1)), (3, .int 1), (2, .int v2), (1, .int v1), (0, .ref (DA 0))]) rfl ?_
                refine jj_goto hJ 21 dX7_brief_75 rfl ?_
                exact ih (v4 + 1) 1 v2 v1 D_reach D_edge hF
def q_X7_brief_8 (D_levels : Int32) (D_now : Nat → Int32) (D_terms : Int32) (D_termLevel : Nat → Int32) (D_termAdd : Nat → Int32)  : Nat → Int32 → Int32 → (Nat → Int32) → (Nat → Int32) → Option (Int32 × (Nat → Int32) × (Nat → Int32))
  | 0, _, _, _, _ => none
  | n + 1, v2, v1, D_reach, D_edge => if D_terms ≤ v2 then (some (v1, D_reach, D_edge)) else (q_X7_brief_21 D_levels D_now D_terms D_termLevel D_termAdd (q_X7_brief_8 D_levels D_now D_terms D_termLevel D_termAdd n) FU 0 0 v2 v1 D_reach D_edge)
set_option maxRecDepth 100000 in
theorem w_X7_brief_8 {D_length : Int32} {D_text : Nat → Int32} {D_levels : Int32} {D_readLevels : Int32} {D_readAsked : Int32} {D_asked : Nat → Int32} {D_readKinds : Nat → Int32} {D_now : Nat → Int32} {D_before : Nat → Int32} {D_undoMany : Int32} {D_kept : Nat → Int32} {D_keptMany : Int32} {D_refused : Int32} {D_roundMany : Int32} {D_roundOver : Int32} {D_round : Nat → Int32} {D_terms : Int32} {D_termLevel : Nat → Int32} {D_termAdd : Nat → Int32} {D_spot : Int32} {D_number : Nat → Int32} {D_by : Nat → Int32}   (hJ : jJ l cX7_brief 5 D (tysU cI cS cII) RX7 Rm_X7_brief (some .int) A (some z_r) (W_X7_brief cI cS cII DA D_length D_text D_levels D_readLevels D_readAsked D_asked D_readKinds D_now D_before D_undoMany D_kept D_keptMany D_refused D_roundMany D_roundOver D_round D_terms D_termLevel D_termAdd D_spot D_number z_D_reach z_D_edge D_by) J)  : ∀ (n : Nat) (v2 : Int32) (v1 : Int32) (D_reach : Nat → Int32) (D_edge : Nat → Int32), q_X7_brief_8 D_levels D_now D_terms D_termLevel D_termAdd n v2 v1 D_reach D_edge = some (z_r, z_D_reach, z_D_edge) → J (W_X7_brief cI cS cII DA D_length D_text D_levels D_readLevels D_readAsked D_asked D_readKinds D_now D_before D_undoMany D_kept D_keptMany D_refused D_roundMany D_roundOver D_round D_terms D_termLevel D_termAdd D_spot D_number D_reach D_edge D_by) 8 [(2, .int v2), (1, .int v1), (0, .ref (DA 0))] [] := by
  intro n
  induction n with
  | zero =>
    intro v2 v1 D_reach D_edge hF
    exact no_some (show (none : Option (Int32 × (Nat → Int32) × (Nat → Int32))) = some (z_r, z_D_reach, z_D_edge) from hF)
  | succ n ih =>
    intro v2 v1 D_reach D_edge hF
    rw [q_X7_brief_8.eq_2] at hF
    refine jj_iload_n hJ dX7_brief_8 0 rfl rfl ?_
    refine jj_aload_n hJ dX7_brief_9 2 rfl rfl ?_
    refine jj_get hJ lay_X7 dX7_brief_10 0 16 rfl rfl (Nat.le_of_ble_eq_true rfl) kw_222 rfl ?_
    refine jj_icmp_ge hJ 98 dX7_brief_13 rfl (fun c1 => ?_) (fun c1 => ?_)
    · replace hF := ip c1 hF
      refine jj_iload_n hJ dX7_brief_98 1 rfl rfl ?_
      cases Option.some.inj hF
      exact jj_iret hJ dX7_brief_99
    · replace hF := iq c1 hF
      refine jj_iconst hJ dX7_brief_16 ic_0 ?_
      refine jj_istore_n hJ dX7_brief_17 rfl (Nat.le_of_ble_eq_true rfl) (lv' := [(3, .int 0), (2, .int v2), (1, .int v1), (0, .ref (DA 0))]) rfl ?_
      refine jj_iconst hJ dX7_brief_18 ic_0 ?_
      refine jj_istore hJ dX7_brief_19 (Nat.le_of_ble_eq_true rfl) (lv' := [(4, .int 0), (3, .int 0), (2, .int v2), (1, .int v1), (0, .ref (DA 0))]) rfl ?_
      exact w_X7_brief_21 hJ (fun v2 v1 D_reach D_edge => ih v2 v1 D_reach D_edge) FU 0 0 v2 v1 D_reach D_edge hF
def p_X7_brief (D_levels : Int32) (D_now : Nat → Int32) (D_terms : Int32) (D_termLevel : Nat → Int32) (D_termAdd : Nat → Int32) (D_reach : Nat → Int32) (D_edge : Nat → Int32) : Option (Int32 × (Nat → Int32) × (Nat → Int32)) := (p_X7_find D_levels D_now D_reach D_edge).bind fun (g2, g3) => q_X7_brief_8 D_levels D_now D_terms D_termLevel D_termAdd FU 0 0 g2 g3
end
set_option maxRecDepth 100000 in
theorem c_X7_brief (l : Launch) (D : va_G) (cI cS cII : ClassId) (DA : Nat → Nat) (D_length : Int32) (D_text : Nat → Int32) (D_levels : Int32) (D_readLevels : Int32) (D_readAsked : Int32) (D_asked : Nat → Int32) (D_readKinds : Nat → Int32) (D_now : Nat → Int32) (D_before : Nat → Int32) (D_undoMany : Int32) (D_kept : Nat → Int32) (D_keptMany : Int32) (D_refused : Int32) (D_roundMany : Int32) (D_roundOver : Int32) (D_round : Nat → Int32) (D_terms : Int32) (D_termLevel : Nat → Int32) (D_termAdd : Nat → Int32) (D_spot : Int32) (D_number : Nat → Int32) (D_reach : Nat → Int32) (D_edge : Nat → Int32) (D_by : Nat → Int32)  {z_r : Int32} {z_D_reach : Nat → Int32} {z_D_edge : Nat → Int32} (hF : p_X7_brief D_levels D_now D_terms D_termLevel D_termAdd D_reach D_edge = some (z_r, z_D_reach, z_D_edge)) : MJ l yX7_brief cX7_brief 5 (some .int) Rm_X7_brief D (tysU cI cS cII) [.ref (DA 0)] (W_X7_brief cI cS cII DA D_length D_text D_levels D_readLevels D_readAsked D_asked D_readKinds D_now D_before D_undoMany D_kept D_keptMany D_refused D_roundMany D_roundOver D_round D_terms D_termLevel D_termAdd D_spot D_number D_reach D_edge D_by) (some z_r) (W_X7_brief cI cS cII DA D_length D_text D_levels D_readLevels D_readAsked D_asked D_readKinds D_now D_before D_undoMany D_kept D_keptMany D_refused D_roundMany D_roundOver D_round D_terms D_termLevel D_termAdd D_spot D_number z_D_reach z_D_edge D_by) := by
  refine mj_of (own := RX7) (by decide) rfl (Nat.le_of_ble_eq_true rfl) (fun J hJ => ?_)
  show J (W_X7_brief cI cS cII DA D_length D_text D_levels D_readLevels D_readAsked D_asked D_readKinds D_now D_before D_undoMany D_kept D_keptMany D_refused D_roundMany D_roundOver D_round D_terms D_termLevel D_termAdd D_spot D_number D_reach D_edge D_by) 0 [(0, .ref (DA 0))] []
  unfold p_X7_brief at hF
  refine jj_aload_n hJ dX7_brief_0 0 rfl rfl ?_
  obtain ⟨⟨g2, g3⟩, h1, hF⟩ := ob hF
  refine jj_callV hJ (c_X7_find l D cI cS cII DA D_length D_text D_levels D_readLevels D_readAsked D_asked D_readKinds D_now D_before D_undoMany D_kept D_keptMany D_refused D_roundMany D_roundOver D_round D_terms D_termLevel D_termAdd D_spot D_number D_reach D_edge D_by  h1) dX7_brief_1 kw_203 ⟨Nat.le_of_ble_eq_true rfl, Nat.le_of_ble_eq_true rfl, rfl, rfl⟩ kw_202 kw_204 kw_205 0 rfl rfl rfl rfl (Nat.le_of_ble_eq_true rfl) [0, 1, 2, 3, 4, 5, 6, 7, 8, 9, 10, 11, 12, 13] rfl rfl (wn := (W_X7_brief cI cS cII DA D_length D_text D_levels D_readLevels D_readAsked D_asked D_readKinds D_now D_before D_undoMany D_kept D_keptMany D_refused D_roundMany D_roundOver D_round D_terms D_termLevel D_termAdd D_spot D_number g2 g3 D_by)) (jNew_sel rfl [some 0, some 1, some 2, some 3, some 4, some 5, some 6, some 7, some 8, some 9, some 10, some 11, some 12, some 13] (by decide +kernel) rfl) ?_
  refine jj_iconst hJ dX7_brief_4 ic_0 ?_
  refine jj_istore_n hJ dX7_brief_5 rfl (Nat.le_of_ble_eq_true rfl) (lv' := [(1, .int 0), (0, .ref (DA 0))]) rfl ?_
  refine jj_iconst hJ dX7_brief_6 ic_0 ?_
  refine jj_istore_n hJ dX7_brief_7 rfl (Nat.le_of_ble_eq_true rfl) (lv' := [(2, .int 0), (1, .int 0), (0, .ref (DA 0))]) rfl ?_
  exact w_X7_brief_8 hJ  FU 0 0 g2 g3 hF
section
def W_X7_below (cI cS cII : ClassId) (DA : Nat → Nat) (D_length : Int32) (D_text : Nat → Int32) (D_levels : Int32) (D_readLevels : Int32) (D_readAsked : Int32) (D_asked : Nat → Int32) (D_readKinds : Nat → Int32) (D_now : Nat → Int32) (D_before : Nat → Int32) (D_undoMany : Int32) (D_kept : Nat → Int32) (D_keptMany : Int32) (D_refused : Int32) (D_roundMany : Int32) (D_roundOver : Int32) (D_round : Nat → Int32) (D_terms : Int32) (D_termLevel : Nat → Int32) (D_termAdd : Nat → Int32) (D_spot : Int32) (D_number : Nat → Int32) (D_reach : Nat → Int32) (D_edge : Nat → Int32) (D_by : Nat → Int32) : va_W := [((DA 0), .inr (7, [.int D_length, .ref (DA 1), .int D_levels, .int D_readLevels, .int D_readAsked, .ref (DA 2), .ref (DA 3), .ref (DA 4), .ref (DA 5), .int D_undoMany, .ref (DA 6), .int D_keptMany, .int D_refused, .int D_roundMany, .int D_roundOver, .ref (DA 7), .int D_terms, .ref (DA 8), .ref (DA 9), .int D_spot, .ref (DA 10), .ref (DA 11), .ref (DA 12), .ref (DA 13)])), ((DA 1), .inl (cI, 200, .inl D_text)), ((DA 2), .inl (cI, 160, .inl D_asked)), ((DA 3), .inl (cI, 10, .inl D_readKinds)), ((DA 4), .inl (cI, 59, .inl D_now)), ((DA 5), .inl (cI, 472, .inl D_before)), ((DA 6), .inl (cI, 118, .inl D_kept)), ((DA 7), .inl (cI, 12, .inl D_round)), ((DA 8), .inl (cI, 6, .inl D_termLevel)), ((DA 9), .inl (cI, 6, .inl D_termAdd)), ((DA 10), .inl (cI, 3, .inl D_number)), ((DA 11), .inl (cI, 100, .inl D_reach)), ((DA 12), .inl (cI, 100, .inl D_edge)), ((DA 13), .inl (cI, 110, .inl D_by))]
abbrev Rm_X7_below : Room := { frames := 3, cells := 0, slots := 0, locals := 67 }
variable {l : Launch} {D : va_G} {cI cS cII : ClassId} {DA : Nat → Nat} {A : Nat → Prop} {J : jT}
variable {z_r : Int32} {z_D_reach : Nat → Int32} {z_D_edge : Nat → Int32}
def q_X7_below_26 (D_levels : Int32) (D_now : Nat → Int32) (D_terms : Int32) (D_termLevel : Nat → Int32) (D_termAdd : Nat → Int32) (a1 : Int32) (a2 : Int32)  : Nat → Int32 → Int32 → (Nat → Int32) → (Nat → Int32) → Option (Int32 × (Nat → Int32) × (Nat → Int32))
  | 0, _, _, _, _ => none
  | n + 1, v4, v3, D_reach, D_edge => if D_terms ≤ v4 then (if v3 = 0 then (some (0, D_reach, D_edge)) else (some (1, D_reach, D_edge))) else (if v3 = 0 then (q_X7_below_26 D_levels D_now D_terms D_termLevel D_termAdd a1 a2 n (v4 + 1) 0 D_reach D_edge) else ((rd D_termLevel 6 v4).bind fun x4 => (rd D_termAdd 6 v4).bind fun x6 => (p_X7_isSo D_reach x4 (x6 - a2) a1).bind fun r9 => if r9 = 0 then (q_X7_below_26 D_levels D_now D_terms D_termLevel D_termAdd a1 a2 n (v4 + 1) 0 D_reach D_edge) else (q_X7_below_26 D_levels D_now D_terms D_termLevel D_termAdd a1 a2 n (v4 + 1) 1 D_reach D_edge)))
set_option maxRecDepth 100000 in
theorem w_X7_below_26 {D_length : Int32} {D_text : Nat → Int32} {D_levels : Int32} {D_readLevels : Int32} {D_readAsked : Int32} {D_asked : Nat → Int32} {D_readKinds : Nat → Int32} {D_now : Nat → Int32} {D_before : Nat → Int32} {D_undoMany : Int32} {D_kept : Nat → Int32} {D_keptMany : Int32} {D_refused : Int32} {D_roundMany : Int32} {D_roundOver : Int32} {D_round : Nat → Int32} {D_terms : Int32} {D_termLevel : Nat → Int32} {D_termAdd : Nat → Int32} {D_spot : Int32} {D_number : Nat → Int32} {D_by : Nat → Int32} {a1 : Int32} {a2 : Int32}  (hJ : jJ l cX7_below 5 D (tysU cI cS cII) RX7 Rm_X7_below (some .int) A (some z_r) (W_X7_below cI cS cII DA D_length D_text D_levels D_readLevels D_readAsked D_asked D_readKinds D_now D_before D_undoMany D_kept D_keptMany D_refused D_roundMany D_roundOver D_round D_terms D_termLevel D_termAdd D_spot D_number z_D_reach z_D_edge D_by) J)  : ∀ (n : Nat) (v4 : Int32) (v3 : Int32) (D_reach : Nat → Int32) (D_edge : Nat → Int32), q_X7_below_26 D_levels D_now D_terms D_termLevel D_termAdd a1 a2 n v4 v3 D_reach D_edge = some (z_r, z_D_reach, z_D_edge) → J (W_X7_below cI cS cII DA D_length D_text D_levels D_readLevels D_readAsked D_asked D_readKinds D_now D_before D_undoMany D_kept D_keptMany D_refused D_roundMany D_roundOver D_round D_terms D_termLevel D_termAdd D_spot D_number D_reach D_edge D_by) 26 [(4, .int v4), (3, .int v3), (0, .ref (DA 0)), (1, .int a1), (2, .int a2)] [] := by
  intro n
  induction n with
  | zero =>
    intro v4 v3 D_reach D_edge hF
    exact no_some (show (none : Option (Int32 × (Nat → Int32) × (Nat → Int32))) = some (z_r, z_D_reach, z_D_edge) from hF)
  | succ n ih =>
    intro v4 v3 D_reach D_edge hF
    rw [q_X7_below_26.eq_2] at hF
    refine jj_iload hJ dX7_below_26 0 rfl ?_
    refine jj_aload_n hJ dX7_below_28 2 rfl rfl ?_
    refine jj_get hJ lay_X7 dX7_below_29 0 16 rfl rfl (Nat.le_of_ble_eq_true rfl) kw_222 rfl ?_
    refine jj_icmp_ge hJ 75 dX7_below_32 rfl (fun c1 => ?_) (fun c1 => ?_)
    · replace hF := ip c1 hF
      refine jj_iload_n hJ dX7_below_75 1 rfl rfl ?_
      refine jj_if_eq hJ 83 dX7_below_76 rfl (fun c2 => ?_) (fun c2 => ?_)
      · replace hF := ip c2 hF
        refine jj_iconst hJ dX7_below_83 ic_0 ?_
        cases Option.some.inj hF
        exact jj_iret hJ dX7_below_84
      · replace hF := iq c2 hF
        refine jj_iconst hJ dX7_below_79 ic_1 ?_
        refine jj_goto hJ 84 dX7_below_80 rfl ?_
        cases Option.some.inj hF
        exact jj_iret hJ dX7_below_84
    · replace hF := iq c1 hF
      refine jj_iload_n hJ dX7_below_35 1 rfl rfl ?_
      refine jj_if_eq hJ 67 dX7_below_36 rfl (fun c3 => ?_) (fun c3 => ?_)
      · replace hF := ip c3 hF
        refine jj_iconst hJ dX7_below_67 ic_0 ?_
        refine jj_istore_n hJ dX7_below_68 rfl (Nat.le_of_ble_eq_true rfl) (lv' := [(3, .int 0), (4, .int v4), (0, .ref (DA 0)), (1, .int a1), (2, .int a2)]) rfl ?_
        refine jj_iinc hJ dX7_below_69 1 rfl (v := v4 + 1) (by rw [ic_1]) (Nat.le_of_ble_eq_true rfl) (lv' := [(4, .int (v4 + 1)), (3, .int 0), (0, .ref (DA 0)), (1, .int a1), (2, .int a2)]) rfl ?_
        refine jj_goto hJ 26 dX7_below_72 rfl ?_
        exact ih (v4 + 1) 0 D_reach D_edge hF
      · replace hF := iq c3 hF
        refine jj_aload_n hJ dX7_below_39 2 rfl rfl ?_
        refine jj_aload_n hJ dX7_below_40 2 rfl rfl ?_
        refine jj_get hJ lay_X7 dX7_below_41 0 17 rfl rfl (Nat.le_of_ble_eq_true rfl) kw_273 rfl ?_
        refine jj_iload hJ dX7_below_44 0 rfl ?_
        obtain ⟨x4, h5, hF⟩ := ob hF
        refine jj_iald hJ dX7_below_46 8 0 rfl rfl h5 ?_
        refine jj_aload_n hJ dX7_below_47 2 rfl rfl ?_
        refine jj_get hJ lay_X7 dX7_below_48 0 18 rfl rfl (Nat.le_of_ble_eq_true rfl) kw_274 rfl ?_
        refine jj_iload hJ dX7_below_51 0 rfl ?_
        obtain ⟨x6, h7, hF⟩ := ob hF
        refine jj_iald hJ dX7_below_53 9 0 rfl rfl h7 ?_
        refine jj_iload_n hJ dX7_below_54 4 rfl rfl ?_
        refine jj_isub hJ dX7_below_55 ?_
        refine jj_iload_n hJ dX7_below_56 3 rfl rfl ?_
        obtain ⟨r9, h8, hF⟩ := ob hF
        refine jj_callV0 hJ (c_X7_isSo l D cI cS cII DA D_length D_text D_levels D_readLevels D_readAsked D_asked D_readKinds D_now D_before D_undoMany D_kept D_keptMany D_refused D_roundMany D_roundOver D_round D_terms D_termLevel D_termAdd D_spot D_number D_reach D_edge D_by x4 (x6 - a2) a1 h8) dX7_below_57 kw_260 ⟨Nat.le_of_ble_eq_true rfl, Nat.le_of_ble_eq_true rfl, rfl, rfl⟩ kw_259 kw_261 kw_262 0 rfl rfl rfl rfl (Nat.le_of_ble_eq_true rfl) [0, 1, 2, 3, 4, 5, 6, 7, 8, 9, 10, 11, 12, 13] rfl rfl ?_
        refine jj_if_eq hJ 67 dX7_below_60 rfl (fun c10 => ?_) (fun c10 => ?_)
        · replace hF := ip c10 hF
          refine jj_iconst hJ dX7_below_67 ic_0 ?_
          refine jj_istore_n hJ dX7_below_68 rfl (Nat.le_of_ble_eq_true rfl) (lv' := [(3, .int 0), (4, .int v4), (0, .ref (DA 0)), (1, .int a1), (2, .int a2)]) rfl ?_
          refine jj_iinc hJ dX7_below_69 1 rfl (v := v4 + 1) (by rw [ic_1]) (Nat.le_of_ble_eq_true rfl) (lv' := [(4, .int (v4 + 1)), (3, .int 0), (0, .ref (DA 0)), (1, .int a1), (2, .int a2)]) rfl ?_
          refine jj_goto hJ 26 dX7_below_72 rfl ?_
          exact ih (v4 + 1) 0 D_reach D_edge hF
        · replace hF := iq c10 hF
          refine jj_iconst hJ dX7_below_63 ic_1 ?_
          refine jj_goto hJ 68 dX7_below_64 rfl ?_
          refine jj_istore_n hJ dX7_below_68 rfl (Nat.le_of_ble_eq_true rfl) (lv' := [(3, .int 1), (4, .int v4), (0, .ref (DA 0)), (1, .int a1), (2, .int a2)]) rfl ?_
          refine jj_iinc hJ dX7_below_69 1 rfl (v := v4 + 1) (by rw [ic_1]) (Nat.le_of_ble_eq_true rfl) (lv' := [(4, .int (v4 + 1)), (3, .int 1), (0, .ref (DA 0)), (1, .int a1), (2, .int a2)]) rfl ?_
          refine jj_goto hJ 26 dX7_below_72 rfl ?_
          exact ih (v4 + 1) 1 D_reach D_edge hF
def p_X7_below (D_levels : Int32) (D_now : Nat → Int32) (D_terms : Int32) (D_termLevel : Nat → Int32) (D_termAdd : Nat → Int32) (D_reach : Nat → Int32) (D_edge : Nat → Int32) (a1 : Int32) (a2 : Int32) : Option (Int32 × (Nat → Int32) × (Nat → Int32)) := (p_X7_isLevel D_levels a1).bind fun r2 => if r2 = 0 then (some ((-1), D_reach, D_edge)) else ((p_X7_isAdd a2).bind fun r5 => if r5 = 0 then (some ((-1), D_reach, D_edge)) else ((p_X7_find D_levels D_now D_reach D_edge).bind fun (g8, g9) => q_X7_below_26 D_levels D_now D_terms D_termLevel D_termAdd a1 a2 FU 0 1 g8 g9))
end
set_option maxRecDepth 100000 in
theorem c_X7_below (l : Launch) (D : va_G) (cI cS cII : ClassId) (DA : Nat → Nat) (D_length : Int32) (D_text : Nat → Int32) (D_levels : Int32) (D_readLevels : Int32) (D_readAsked : Int32) (D_asked : Nat → Int32) (D_readKinds : Nat → Int32) (D_now : Nat → Int32) (D_before : Nat → Int32) (D_undoMany : Int32) (D_kept : Nat → Int32) (D_keptMany : Int32) (D_refused : Int32) (D_roundMany : Int32) (D_roundOver : Int32) (D_round : Nat → Int32) (D_terms : Int32) (D_termLevel : Nat → Int32) (D_termAdd : Nat → Int32) (D_spot : Int32) (D_number : Nat → Int32) (D_reach : Nat → Int32) (D_edge : Nat → Int32) (D_by : Nat → Int32) (a1 : Int32) (a2 : Int32) {z_r : Int32} {z_D_reach : Nat → Int32} {z_D_edge : Nat → Int32} (hF : p_X7_below D_levels D_now D_terms D_termLevel D_termAdd D_reach D_edge a1 a2 = some (z_r, z_D_reach, z_D_edge)) : MJ l yX7_below cX7_below 5 (some .int) Rm_X7_below D (tysU cI cS cII) [.ref (DA 0), .int a1, .int a2] (W_X7_below cI cS cII DA D_length D_text D_levels D_readLevels D_readAsked D_asked D_readKinds D_now D_before D_undoMany D_kept D_keptMany D_refused D_roundMany D_roundOver D_round D_terms D_termLevel D_termAdd D_spot D_number D_reach D_edge D_by) (some z_r) (W_X7_below cI cS cII DA D_length D_text D_levels D_readLevels D_readAsked D_asked D_readKinds D_now D_before D_undoMany D_kept D_keptMany D_refused D_roundMany D_roundOver D_round D_terms D_termLevel D_termAdd D_spot D_number z_D_reach z_D_edge D_by) := by
  refine mj_of (own := RX7) (by decide) rfl (Nat.le_of_ble_eq_true rfl) (fun J hJ => ?_)
  show J (W_X7_below cI cS cII DA D_length D_text D_levels D_readLevels D_readAsked D_asked D_readKinds D_now D_before D_undoMany D_kept D_keptMany D_refused D_roundMany D_roundOver D_round D_terms D_termLevel D_termAdd D_spot D_number D_reach D_edge D_by) 0 [(0, .ref (DA 0)), (1, .int a1), (2, .int a2)] []
  unfold p_X7_below at hF
  refine jj_aload_n hJ dX7_below_0 0 rfl rfl ?_
  refine jj_iload_n hJ dX7_below_1 1 rfl rfl ?_
  obtain ⟨r2, h1, hF⟩ := ob hF
  refine jj_callV0 hJ (c_X7_isLevel l D cI cS cII DA D_length D_text D_levels D_readLevels D_readAsked D_asked D_readKinds D_now D_before D_undoMany D_kept D_keptMany D_refused D_roundMany D_roundOver D_round D_terms D_termLevel D_termAdd D_spot D_number D_reach D_edge D_by a1 h1) dX7_below_2 kw_232 ⟨Nat.le_of_ble_eq_true rfl, Nat.le_of_ble_eq_true rfl, rfl, rfl⟩ kw_231 kw_233 kw_234 0 rfl rfl rfl rfl (Nat.le_of_ble_eq_true rfl) [0, 1, 2, 3, 4, 5, 6, 7, 8, 9, 10, 11, 12, 13] rfl rfl ?_
  refine jj_if_eq hJ 15 dX7_below_5 rfl (fun c3 => ?_) (fun c3 => ?_)
  · replace hF := ip c3 hF
    refine jj_iconst hJ dX7_below_15 ic_m1 ?_
    cases Option.some.inj hF
    exact jj_iret hJ dX7_below_16
  · replace hF := iq c3 hF
    refine jj_iload_n hJ dX7_below_8 2 rfl rfl ?_
    obtain ⟨r5, h4, hF⟩ := ob hF
    refine jj_callS0 hJ (c_X7_isAdd l D cI cS cII   a2 h4) dX7_below_9 kw_249 ⟨Nat.le_of_ble_eq_true rfl, Nat.le_of_ble_eq_true rfl, rfl, rfl⟩ kw_250 kw_251 rfl rfl (Nat.le_of_ble_eq_true rfl) [] rfl rfl ?_
    refine jj_if_ne hJ 17 dX7_below_12 rfl (fun c6 => ?_) (fun c6 => ?_)
    · replace hF := iq c6 hF
      refine jj_aload_n hJ dX7_below_17 0 rfl rfl ?_
      obtain ⟨⟨g8, g9⟩, h7, hF⟩ := ob hF
      refine jj_callV hJ (c_X7_find l D cI cS cII DA D_length D_text D_levels D_readLevels D_readAsked D_asked D_readKinds D_now D_before D_undoMany D_kept D_keptMany D_refused D_roundMany D_roundOver D_round D_terms D_termLevel D_termAdd D_spot D_number D_reach D_edge D_by  h7) dX7_below_18 kw_203 ⟨Nat.le_of_ble_eq_true rfl, Nat.le_of_ble_eq_true rfl, rfl, rfl⟩ kw_202 kw_204 kw_205 0 rfl rfl rfl rfl (Nat.le_of_ble_eq_true rfl) [0, 1, 2, 3, 4, 5, 6, 7, 8, 9, 10, 11, 12, 13] rfl rfl (wn := (W_X7_below cI cS cII DA D_length D_text D_levels D_readLevels D_readAsked D_asked D_readKinds D_now D_before D_undoMany D_kept D_keptMany D_refused D_roundMany D_roundOver D_round D_terms D_termLevel D_termAdd D_spot D_number g8 g9 D_by)) (jNew_sel rfl [some 0, some 1, some 2, some 3, some 4, some 5, some 6, some 7, some 8, some 9, some 10, some 11, some 12, some 13] (by decide +kernel) rfl) ?_
      refine jj_iconst hJ dX7_below_21 ic_1 ?_
      refine jj_istore_n hJ dX7_below_22 rfl (Nat.le_of_ble_eq_true rfl) (lv' := [(3, .int 1), (0, .ref (DA 0)), (1, .int a1), (2, .int a2)]) rfl ?_
      refine jj_iconst hJ dX7_below_23 ic_0 ?_
      refine jj_istore hJ dX7_below_24 (Nat.le_of_ble_eq_true rfl) (lv' := [(4, .int 0), (3, .int 1), (0, .ref (DA 0)), (1, .int a1), (2, .int a2)]) rfl ?_
      exact w_X7_below_26 hJ  FU 0 1 g8 g9 hF
    · replace hF := ip c6 hF
      refine jj_iconst hJ dX7_below_15 ic_m1 ?_
      cases Option.some.inj hF
      exact jj_iret hJ dX7_below_16
section
def W_X7_worth (cI cS cII : ClassId) (DA : Nat → Nat) (D_length : Int32) (D_text : Nat → Int32) (D_levels : Int32) (D_readLevels : Int32) (D_readAsked : Int32) (D_asked : Nat → Int32) (D_readKinds : Nat → Int32) (D_now : Nat → Int32) (D_before : Nat → Int32) (D_undoMany : Int32) (D_kept : Nat → Int32) (D_keptMany : Int32) (D_refused : Int32) (D_roundMany : Int32) (D_roundOver : Int32) (D_round : Nat → Int32) (D_terms : Int32) (D_termLevel : Nat → Int32) (D_termAdd : Nat → Int32) (D_spot : Int32) (D_number : Nat → Int32) (D_reach : Nat → Int32) (D_edge : Nat → Int32) (D_by : Nat → Int32) : va_W := [((DA 0), .inr (7, [.int D_length, .ref (DA 1), .int D_levels, .int D_readLevels, .int D_readAsked, .ref (DA 2), .ref (DA 3), .ref (DA 4), .ref (DA 5), .int D_undoMany, .ref (DA 6), .int D_keptMany, .int D_refused, .int D_roundMany, .int D_roundOver, .ref (DA 7), .int D_terms, .ref (DA 8), .ref (DA 9), .int D_spot, .ref (DA 10), .ref (DA 11), .ref (DA 12), .ref (DA 13)])), ((DA 1), .inl (cI, 200, .inl D_text)), ((DA 2), .inl (cI, 160, .inl D_asked)), ((DA 3), .inl (cI, 10, .inl D_readKinds)), ((DA 4), .inl (cI, 59, .inl D_now)), ((DA 5), .inl (cI, 472, .inl D_before)), ((DA 6), .inl (cI, 118, .inl D_kept)), ((DA 7), .inl (cI, 12, .inl D_round)), ((DA 8), .inl (cI, 6, .inl D_termLevel)), ((DA 9), .inl (cI, 6, .inl D_termAdd)), ((DA 10), .inl (cI, 3, .inl D_number)), ((DA 11), .inl (cI, 100, .inl D_reach)), ((DA 12), .inl (cI, 100, .inl D_edge)), ((DA 13), .inl (cI, 110, .inl D_by))]
abbrev Rm_X7_worth : Room := { frames := 3, cells := 0, slots := 0, locals := 67 }
variable {l : Launch} {D : va_G} {cI cS cII : ClassId} {DA : Nat → Nat} {A : Nat → Prop} {J : jT}
variable {z_r : Int32} {z_D_reach : Nat → Int32} {z_D_edge : Nat → Int32}
def q_X7_worth_8 (D_levels : Int32) (D_now : Nat → Int32) (D_terms : Int32) (D_termLevel : Nat → Int32) (D_termAdd : Nat → Int32)  : Nat → Int32 → Int32 → (Nat → Int32) → (Nat → Int32) → Option (Int32 × (Nat → Int32) × (Nat → Int32))
  | 0, _, _, _, _ => none
  | n + 1, v2, v1, D_reach, D_edge => if D_terms ≤ v2 then (some (v1, D_reach, D_edge)) else ((rd D_termLevel 6 v2).bind fun x2 => (p_X7_valueOf D_levels D_reach x2).bind fun r5 => (rd D_termAdd 6 v2).bind fun x6 => if (r5 + x6) ≤ v1 then (q_X7_worth_8 D_levels D_now D_terms D_termLevel D_termAdd n (v2 + 1) v1 D_reach D_edge) else (q_X7_worth_8 D_levels D_now D_terms D_termLevel D_termAdd n (v2 + 1) (r5 + x6) D_reach D_edge))
set_option maxRecDepth 100000 in
theorem w_X7_worth_8 {D_length : Int32} {D_text : Nat → Int32} {D_levels : Int32} {D_readLevels : Int32} {D_readAsked : Int32} {D_asked : Nat → Int32} {D_readKinds : Nat → Int32} {D_now : Nat → Int32} {D_before : Nat → Int32} {D_undoMany : Int32} {D_kept : Nat → Int32} {D_keptMany : Int32} {D_refused : Int32} {D_roundMany : Int32} {D_roundOver : Int32} {D_round : Nat → Int32} {D_terms : Int32} {D_termLevel : Nat → Int32} {D_termAdd : Nat → Int32} {D_spot : Int32} {D_number : Nat → Int32} {D_by : Nat → Int32}   (hJ : jJ l cX7_worth 4 D (tysU cI cS cII) RX7 Rm_X7_worth (some .int) A (some z_r) (W_X7_worth cI cS cII DA D_length D_text D_levels D_readLevels D_readAsked D_asked D_readKinds D_now D_before D_undoMany D_kept D_keptMany D_refused D_roundMany D_roundOver D_round D_terms D_termLevel D_termAdd D_spot D_number z_D_reach z_D_edge D_by) J)  : ∀ (n : Nat) (v2 : Int32) (v1 : Int32) (D_reach : Nat → Int32) (D_edge : Nat → Int32), q_X7_worth_8 D_levels D_now D_terms D_termLevel D_termAdd n v2 v1 D_reach D_edge = some (z_r, z_D_reach, z_D_edge) → J (W_X7_worth cI cS cII DA D_length D_text D_levels D_readLevels D_readAsked D_asked D_readKinds D_now D_before D_undoMany D_kept D_keptMany D_refused D_roundMany D_roundOver D_round D_terms D_termLevel D_termAdd D_spot D_number D_reach D_edge D_by) 8 [(2, .int v2), (1, .int v1), (0, .ref (DA 0))] [] := by
  intro n
  induction n with
  | zero =>
    intro v2 v1 D_reach D_edge hF
    exact no_some (show (none : Option (Int32 × (Nat → Int32) × (Nat → Int32))) = some (z_r, z_D_reach, z_D_edge) from hF)
  | succ n ih =>
    intro v2 v1 D_reach D_edge hF
    rw [q_X7_worth_8.eq_2] at hF
    refine jj_iload_n hJ dX7_worth_8 0 rfl rfl ?_
    refine jj_aload_n hJ dX7_worth_9 2 rfl rfl ?_
    refine jj_get hJ lay_X7 dX7_worth_10 0 16 rfl rfl (Nat.le_of_ble_eq_true rfl) kw_222 rfl ?_
    refine jj_icmp_ge hJ 51 dX7_worth_13 rfl (fun c1 => ?_) (fun c1 => ?_)
    · replace hF := ip c1 hF
      refine jj_iload_n hJ dX7_worth_51 1 rfl rfl ?_
      cases Option.some.inj hF
      exact jj_iret hJ dX7_worth_52
    · replace hF := iq c1 hF
      refine jj_aload_n hJ dX7_worth_16 2 rfl rfl ?_
      refine jj_aload_n hJ dX7_worth_17 2 rfl rfl ?_
      refine jj_get hJ lay_X7 dX7_worth_18 0 17 rfl rfl (Nat.le_of_ble_eq_true rfl) kw_273 rfl ?_
      refine jj_iload_n hJ dX7_worth_21 0 rfl rfl ?_
      obtain ⟨x2, h3, hF⟩ := ob hF
      refine jj_iald hJ dX7_worth_22 8 0 rfl rfl h3 ?_
      obtain ⟨r5, h4, hF⟩ := ob hF
      refine jj_callV0 hJ (c_X7_valueOf l D cI cS cII DA D_length D_text D_levels D_readLevels D_readAsked D_asked D_readKinds D_now D_before D_undoMany D_kept D_keptMany D_refused D_roundMany D_roundOver D_round D_terms D_termLevel D_termAdd D_spot D_number D_reach D_edge D_by x2 h4) dX7_worth_23 kw_237 ⟨Nat.le_of_ble_eq_true rfl, Nat.le_of_ble_eq_true rfl, rfl, rfl⟩ kw_236 kw_238 kw_239 0 rfl rfl rfl rfl (Nat.le_of_ble_eq_true rfl) [0, 1, 2, 3, 4, 5, 6, 7, 8, 9, 10, 11, 12, 13] rfl rfl ?_
      refine jj_aload_n hJ dX7_worth_26 2 rfl rfl ?_
      refine jj_get hJ lay_X7 dX7_worth_27 0 18 rfl rfl (Nat.le_of_ble_eq_true rfl) kw_274 rfl ?_
      refine jj_iload_n hJ dX7_worth_30 0 rfl rfl ?_
      obtain ⟨x6, h7, hF⟩ := ob hF
      refine jj_iald hJ dX7_worth_31 9 0 rfl rfl h7 ?_
      refine jj_iadd hJ dX7_worth_32 ?_
      refine jj_istore_n hJ dX7_worth_33 rfl (Nat.le_of_ble_eq_true rfl) (lv' := [(3, .int (r5 + x6)), (2, .int v2), (1, .int v1), (0, .ref (DA 0))]) rfl ?_
      refine jj_iload_n hJ dX7_worth_34 0 rfl rfl ?_
      refine jj_iload_n hJ dX7_worth_35 2 rfl rfl ?_
      refine jj_icmp_le hJ 43 dX7_worth_36 rfl (fun c8 => ?_) (fun c8 => ?_)
      · replace hF := ip c8 hF
        refine jj_iload_n hJ dX7_worth_43 2 rfl rfl ?_
        refine jj_istore_n hJ dX7_worth_44 rfl (Nat.le_of_ble_eq_true rfl) (lv' := [(1, .int v1), (3, .int (r5 + x6)), (2, .int v2), (0, .ref (DA 0))]) rfl ?_
        refine jj_iinc hJ dX7_worth_45 2 rfl (v := v2 + 1) (by rw [ic_1]) (Nat.le_of_ble_eq_true rfl) (lv' := [(2, .int (v2 + 1)), (1, .int v1), (3, .int (r5 + x6)), (0, .ref (DA 0))]) rfl ?_
        refine jj_goto hJ 8 dX7_worth_48 rfl ?_
        refine jj_lv hJ [0, 1, 3] (lv' := [(2, .int (v2 + 1)), (1, .int v1), (0, .ref (DA 0))]) rfl ?_
        exact ih (v2 + 1) v1 D_reach D_edge hF
      · replace hF := iq c8 hF
        refine jj_iload_n hJ dX7_worth_39 0 rfl rfl ?_
        refine jj_goto hJ 44 dX7_worth_40 rfl ?_
        refine jj_istore_n hJ dX7_worth_44 rfl (Nat.le_of_ble_eq_true rfl) (lv' := [(1, .int (r5 + x6)), (3, .int (r5 + x6)), (2, .int v2), (0, .ref (DA 0))]) rfl ?_
        refine jj_iinc hJ dX7_worth_45 2 rfl (v := v2 + 1) (by rw [ic_1]) (Nat.le_of_ble_eq_true rfl) (lv' := [(2, .int (v2 + 1)), (1, .int (r5 + x6)), (3, .int (r5 + x6)), (0, .ref (DA 0))]) rfl ?_
        refine jj_goto hJ 8 dX7_worth_48 rfl ?_
        refine jj_lv hJ [0, 1, 3] (lv' := [(2, .int (v2 + 1)), (1, .int (r5 + x6)), (0, .ref (DA 0))]) rfl ?_
        exact ih (v2 + 1) (r5 + x6) D_reach D_edge hF
def p_X7_worth (D_levels : Int32) (D_now : Nat → Int32) (D_terms : Int32) (D_termLevel : Nat → Int32) (D_termAdd : Nat → Int32) (D_reach : Nat → Int32) (D_edge : Nat → Int32) : Option (Int32 × (Nat → Int32) × (Nat → Int32)) := (p_X7_find D_levels D_now D_reach D_edge).bind fun (g2, g3) => q_X7_worth_8 D_levels D_now D_terms D_termLevel D_termAdd FU 0 0 g2 g3
end
set_option maxRecDepth 100000 in
theorem c_X7_worth (l : Launch) (D : va_G) (cI cS cII : ClassId) (DA : Nat → Nat) (D_length : Int32) (D_text : Nat → Int32) (D_levels : Int32) (D_readLevels : Int32) (D_readAsked : Int32) (D_asked : Nat → Int32) (D_readKinds : Nat → Int32) (D_now : Nat → Int32) (D_before : Nat → Int32) (D_undoMany : Int32) (D_kept : Nat → Int32) (D_keptMany : Int32) (D_refused : Int32) (D_roundMany : Int32) (D_roundOver : Int32) (D_round : Nat → Int32) (D_terms : Int32) (D_termLevel : Nat → Int32) (D_termAdd : Nat → Int32) (D_spot : Int32) (D_number : Nat → Int32) (D_reach : Nat → Int32) (D_edge : Nat → Int32) (D_by : Nat → Int32)  {z_r : Int32} {z_D_reach : Nat → Int32} {z_D_edge : Nat → Int32} (hF : p_X7_worth D_levels D_now D_terms D_termLevel D_termAdd D_reach D_edge = some (z_r, z_D_reach, z_D_edge)) : MJ l yX7_worth cX7_worth 4 (some .int) Rm_X7_worth D (tysU cI cS cII) [.ref (DA 0)] (W_X7_worth cI cS cII DA D_length D_text D_levels D_readLevels D_readAsked D_asked D_readKinds D_now D_before D_undoMany D_kept D_keptMany D_refused D_roundMany D_roundOver D_round D_terms D_termLevel D_termAdd D_spot D_number D_reach D_edge D_by) (some z_r) (W_X7_worth cI cS cII DA D_length D_text D_levels D_readLevels D_readAsked D_asked D_readKinds D_now D_before D_undoMany D_kept D_keptMany D_refused D_roundMany D_roundOver D_round D_terms D_termLevel D_termAdd D_spot D_number z_D_reach z_D_edge D_by) := by
  refine mj_of (own := RX7) (by decide) rfl (Nat.le_of_ble_eq_true rfl) (fun J hJ => ?_)
  show J (W_X7_worth cI cS cII DA D_length D_text D_levels D_readLevels D_readAsked D_asked D_readKinds D_now D_before D_undoMany D_kept D_keptMany D_refused D_roundMany D_roundOver D_round D_terms D_termLevel D_termAdd D_spot D_number D_reach D_edge D_by) 0 [(0, .ref (DA 0))] []
  unfold p_X7_worth at hF
  refine jj_aload_n hJ dX7_worth_0 0 rfl rfl ?_
  obtain ⟨⟨g2, g3⟩, h1, hF⟩ := ob hF
  refine jj_callV hJ (c_X7_find l D cI cS cII DA D_length D_text D_levels D_readLevels D_readAsked D_asked D_readKinds D_now D_before D_undoMany D_kept D_keptMany D_refused D_roundMany D_roundOver D_round D_terms D_termLevel D_termAdd D_spot D_number D_reach D_edge D_by  h1) dX7_worth_1 kw_203 ⟨Nat.le_of_ble_eq_true rfl, Nat.le_of_ble_eq_true rfl, rfl, rfl⟩ kw_202 kw_204 kw_205 0 rfl rfl rfl rfl (Nat.le_of_ble_eq_true rfl) [0, 1, 2, 3, 4, 5, 6, 7, 8, 9, 10, 11, 12, 13] rfl rfl (wn := (W_X7_worth cI cS cII DA D_length D_text D_levels D_readLevels D_readAsked D_asked D_readKinds D_now D_before D_undoMany D_kept D_keptMany D_refused D_roundMany D_roundOver D_round D_terms D_termLevel D_termAdd D_spot D_number g2 g3 D_by)) (jNew_sel rfl [some 0, some 1, some 2, some 3, some 4, some 5, some 6, some 7, some 8, some 9, some 10, some 11, some 12, some 13] (by decide +kernel) rfl) ?_
  refine jj_iconst hJ dX7_worth_4 ic_0 ?_
  refine jj_istore_n hJ dX7_worth_5 rfl (Nat.le_of_ble_eq_true rfl) (lv' := [(1, .int 0), (0, .ref (DA 0))]) rfl ?_
  refine jj_iconst hJ dX7_worth_6 ic_0 ?_
  refine jj_istore_n hJ dX7_worth_7 rfl (Nat.le_of_ble_eq_true rfl) (lv' := [(2, .int 0), (1, .int 0), (0, .ref (DA 0))]) rfl ?_
  exact w_X7_worth_8 hJ  FU 0 0 g2 g3 hF
section
def W_X7_isRoot (cI cS cII : ClassId) (DA : Nat → Nat) (D_length : Int32) (D_text : Nat → Int32) (D_levels : Int32) (D_readLevels : Int32) (D_readAsked : Int32) (D_asked : Nat → Int32) (D_readKinds : Nat → Int32) (D_now : Nat → Int32) (D_before : Nat → Int32) (D_undoMany : Int32) (D_kept : Nat → Int32) (D_keptMany : Int32) (D_refused : Int32) (D_roundMany : Int32) (D_roundOver : Int32) (D_round : Nat → Int32) (D_terms : Int32) (D_termLevel : Nat → Int32) (D_termAdd : Nat → Int32) (D_spot : Int32) (D_number : Nat → Int32) (D_reach : Nat → Int32) (D_edge : Nat → Int32) (D_by : Nat → Int32) : va_W := [((DA 0), .inr (7, [.int D_length, .ref (DA 1), .int D_levels, .int D_readLevels, .int D_readAsked, .ref (DA 2), .ref (DA 3), .ref (DA 4), .ref (DA 5), .int D_undoMany, .ref (DA 6), .int D_keptMany, .int D_refused, .int D_roundMany, .int D_roundOver, .ref (DA 7), .int D_terms, .ref (DA 8), .ref (DA 9), .int D_spot, .ref (DA 10), .ref (DA 11), .ref (DA 12), .ref (DA 13)])), ((DA 1), .inl (cI, 200, .inl D_text)), ((DA 2), .inl (cI, 160, .inl D_asked)), ((DA 3), .inl (cI, 10, .inl D_readKinds)), ((DA 4), .inl (cI, 59, .inl D_now)), ((DA 5), .inl (cI, 472, .inl D_before)), ((DA 6), .inl (cI, 118, .inl D_kept)), ((DA 7), .inl (cI, 12, .inl D_round)), ((DA 8), .inl (cI, 6, .inl D_termLevel)), ((DA 9), .inl (cI, 6, .inl D_termAdd)), ((DA 10), .inl (cI, 3, .inl D_number)), ((DA 11), .inl (cI, 100, .inl D_reach)), ((DA 12), .inl (cI, 100, .inl D_edge)), ((DA 13), .inl (cI, 110, .inl D_by))]
abbrev Rm_X7_isRoot : Room := { frames := 1, cells := 0, slots := 0, locals := 21 }
variable {l : Launch} {D : va_G} {cI cS cII : ClassId} {DA : Nat → Nat} {A : Nat → Prop} {J : jT}
variable {z_r : Int32}
def p_X7_isRoot (D_now : Nat → Int32) (D_reach : Nat → Int32) (a1 : Int32) (a2 : Int32) : Option (Int32) := (p_X7_isFloating D_now a1).bind fun r2 => if r2 = 0 then ((rd D_reach 100 ((10 * a1) + a2)).bind fun x4 => (p_X7_isWay x4).bind fun r7 => if r7 = 0 then (some 0) else (some 1)) else (some 0)
end
set_option maxRecDepth 100000 in
theorem c_X7_isRoot (l : Launch) (D : va_G) (cI cS cII : ClassId) (DA : Nat → Nat) (D_length : Int32) (D_text : Nat → Int32) (D_levels : Int32) (D_readLevels : Int32) (D_readAsked : Int32) (D_asked : Nat → Int32) (D_readKinds : Nat → Int32) (D_now : Nat → Int32) (D_before : Nat → Int32) (D_undoMany : Int32) (D_kept : Nat → Int32) (D_keptMany : Int32) (D_refused : Int32) (D_roundMany : Int32) (D_roundOver : Int32) (D_round : Nat → Int32) (D_terms : Int32) (D_termLevel : Nat → Int32) (D_termAdd : Nat → Int32) (D_spot : Int32) (D_number : Nat → Int32) (D_reach : Nat → Int32) (D_edge : Nat → Int32) (D_by : Nat → Int32) (a1 : Int32) (a2 : Int32) {z_r : Int32} (hF : p_X7_isRoot D_now D_reach a1 a2 = some z_r) : MJ l yX7_isRoot cX7_isRoot 3 (some .boolean) Rm_X7_isRoot D (tysU cI cS cII) [.ref (DA 0), .int a1, .int a2] (W_X7_isRoot cI cS cII DA D_length D_text D_levels D_readLevels D_readAsked D_asked D_readKinds D_now D_before D_undoMany D_kept D_keptMany D_refused D_roundMany D_roundOver D_round D_terms D_termLevel D_termAdd D_spot D_number D_reach D_edge D_by) (some z_r) (W_X7_isRoot cI cS cII DA D_length D_text D_levels D_readLevels D_readAsked D_asked D_readKinds D_now D_before D_undoMany D_kept D_keptMany D_refused D_roundMany D_roundOver D_round D_terms D_termLevel D_termAdd D_spot D_number D_reach D_edge D_by) := by
  refine mj_of (own := RX7) (by decide) rfl (Nat.le_of_ble_eq_true rfl) (fun J hJ => ?_)
  show J (W_X7_isRoot cI cS cII DA D_length D_text D_levels D_readLevels D_readAsked D_asked D_readKinds D_now D_before D_undoMany D_kept D_keptMany D_refused D_roundMany D_roundOver D_round D_terms D_termLevel D_termAdd D_spot D_number D_reach D_edge D_by) 0 [(0, .ref (DA 0)), (1, .int a1), (2, .int a2)] []
  unfold p_X7_isRoot at hF
  refine jj_aload_n hJ dX7_isRoot_0 0 rfl rfl ?_
  refine jj_iload_n hJ dX7_isRoot_1 1 rfl rfl ?_
  obtain ⟨r2, h1, hF⟩ := ob hF
  refine jj_callV0 hJ (c_X7_isFloating l D cI cS cII DA D_length D_text D_levels D_readLevels D_readAsked D_asked D_readKinds D_now D_before D_undoMany D_kept D_keptMany D_refused D_roundMany D_roundOver D_round D_terms D_termLevel D_termAdd D_spot D_number D_reach D_edge D_by a1 h1) dX7_isRoot_2 kw_241 ⟨Nat.le_of_ble_eq_true rfl, Nat.le_of_ble_eq_true rfl, rfl, rfl⟩ kw_240 kw_242 kw_243 0 rfl rfl rfl rfl (Nat.le_of_ble_eq_true rfl) [0, 1, 2, 3, 4, 5, 6, 7, 8, 9, 10, 11, 12, 13] rfl rfl ?_
  refine jj_if_ne hJ 29 dX7_isRoot_5 rfl (fun c3 => ?_) (fun c3 => ?_)
  · replace hF := iq c3 hF
    refine jj_iconst hJ dX7_isRoot_29 ic_0 ?_
    cases Option.some.inj hF
    exact jj_zret hJ (Or.inl rfl) dX7_isRoot_30
  · replace hF := ip c3 hF
    refine jj_aload_n hJ dX7_isRoot_8 0 rfl rfl ?_
    refine jj_get hJ lay_X7 dX7_isRoot_9 0 21 rfl rfl (Nat.le_of_ble_eq_true rfl) kw_185 rfl ?_
    refine jj_bipush hJ dX7_isRoot_12 bp_10 ?_
    refine jj_iload_n hJ dX7_isRoot_14 1 rfl rfl ?_
    refine jj_imul hJ dX7_isRoot_15 ?_
    refine jj_iload_n hJ dX7_isRoot_16 2 rfl rfl ?_
    refine jj_iadd hJ dX7_isRoot_17 ?_
    obtain ⟨x4, h5, hF⟩ := ob hF
    refine jj_iald hJ dX7_isRoot_18 11 0 rfl rfl h5 ?_
    obtain ⟨r7, h6, hF⟩ := ob hF
    refine jj_callS0 hJ (c_X7_isWay l D cI cS cII   x4 h6) dX7_isRoot_19 kw_187 ⟨Nat.le_of_ble_eq_true rfl, Nat.le_of_ble_eq_true rfl, rfl, rfl⟩ kw_188 kw_189 rfl rfl (Nat.le_of_ble_eq_true rfl) [] rfl rfl ?_
    refine jj_if_eq hJ 29 dX7_isRoot_22 rfl (fun c8 => ?_) (fun c8 => ?_)
    · replace hF := ip c8 hF
      refine jj_iconst hJ dX7_isRoot_29 ic_0 ?_
      cases Option.some.inj hF
      exact jj_zret hJ (Or.inl rfl) dX7_isRoot_30
    · replace hF := iq c8 hF
      refine jj_iconst hJ dX7_isRoot_25 ic_1 ?_
      refine jj_goto hJ 30 dX7_isRoot_26 rfl ?_
      cases Option.some.inj hF
      exact jj_zret hJ (Or.inr rfl) dX7_isRoot_30
section
def W_X7_roots (cI cS cII : ClassId) (DA : Nat → Nat) (D_length : Int32) (D_text : Nat → Int32) (D_levels : Int32) (D_readLevels : Int32) (D_readAsked : Int32) (D_asked : Nat → Int32) (D_readKinds : Nat → Int32) (D_now : Nat → Int32) (D_before : Nat → Int32) (D_undoMany : Int32) (D_kept : Nat → Int32) (D_keptMany : Int32) (D_refused : Int32) (D_roundMany : Int32) (D_roundOver : Int32) (D_round : Nat → Int32) (D_terms : Int32) (D_termLevel : Nat → Int32) (D_termAdd : Nat → Int32) (D_spot : Int32) (D_number : Nat → Int32) (D_reach : Nat → Int32) (D_edge : Nat → Int32) (D_by : Nat → Int32) : va_W := [((DA 0), .inr (7, [.int D_length, .ref (DA 1), .int D_levels, .int D_readLevels, .int D_readAsked, .ref (DA 2), .ref (DA 3), .ref (DA 4), .ref (DA 5), .int D_undoMany, .ref (DA 6), .int D_keptMany, .int D_refused, .int D_roundMany, .int D_roundOver, .ref (DA 7), .int D_terms, .ref (DA 8), .ref (DA 9), .int D_spot, .ref (DA 10), .ref (DA 11), .ref (DA 12), .ref (DA 13)])), ((DA 1), .inl (cI, 200, .inl D_text)), ((DA 2), .inl (cI, 160, .inl D_asked)), ((DA 3), .inl (cI, 10, .inl D_readKinds)), ((DA 4), .inl (cI, 59, .inl D_now)), ((DA 5), .inl (cI, 472, .inl D_before)), ((DA 6), .inl (cI, 118, .inl D_kept)), ((DA 7), .inl (cI, 12, .inl D_round)), ((DA 8), .inl (cI, 6, .inl D_termLevel)), ((DA 9), .inl (cI, 6, .inl D_termAdd)), ((DA 10), .inl (cI, 3, .inl D_number)), ((DA 11), .inl (cI, 100, .inl D_reach)), ((DA 12), .inl (cI, 100, .inl D_edge)), ((DA 13), .inl (cI, 110, .inl D_by))]
abbrev Rm_X7_roots : Room := { frames := 3, cells := 0, slots := 0, locals := 67 }
variable {l : Launch} {D : va_G} {cI cS cII : ClassId} {DA : Nat → Nat} {A : Nat → Prop} {J : jT}
variable {z_r : Int32} {z_D_reach : Nat → Int32} {z_D_edge : Nat → Int32}
def q_X7_roots_157 (D_levels : Int32) (D_now : Nat → Int32) (a1 : Int32) (k29 : Int32 → Int32 → (Nat → Int32) → (Nat → Int32) → Option (Int32 × (Nat → Int32) × (Nat → Int32))) (v4 : Int32) (v3 : Int32) (v2 : Int32) (D_reach : Nat → Int32) (D_edge : Nat → Int32) : Option (Int32 × (Nat → Int32) × (Nat → Int32)) := if v4 = 0 then (k29 (v3 + 1) (v2 ||| 0) D_reach D_edge) else (k29 (v3 + 1) (v2 ||| (1 <<< (v3 &&& 31))) D_reach D_edge)
set_option maxRecDepth 100000 in
theorem w_X7_roots_157 {D_length : Int32} {D_text : Nat → Int32} {D_levels : Int32} {D_readLevels : Int32} {D_readAsked : Int32} {D_asked : Nat → Int32} {D_readKinds : Nat → Int32} {D_now : Nat → Int32} {D_before : Nat → Int32} {D_undoMany : Int32} {D_kept : Nat → Int32} {D_keptMany : Int32} {D_refused : Int32} {D_roundMany : Int32} {D_roundOver : Int32} {D_round : Nat → Int32} {D_terms : Int32} {D_termLevel : Nat → Int32} {D_termAdd : Nat → Int32} {D_spot : Int32} {D_number : Nat → Int32} {D_by : Nat → Int32} {a1 : Int32} {k29 : Int32 → Int32 → (Nat → Int32) → (Nat → Int32) → Option (Int32 × (Nat → Int32) × (Nat → Int32))} (hJ : jJ l cX7_roots 7 D (tysU cI cS cII) RX7 Rm_X7_roots (some .int) A (some z_r) (W_X7_roots cI cS cII DA D_length D_text D_levels D_readLevels D_readAsked D_asked D_readKinds D_now D_before D_undoMany D_kept D_keptMany D_refused D_roundMany D_roundOver D_round D_terms D_termLevel D_termAdd D_spot D_number z_D_reach z_D_edge D_by) J) (hk29 : ∀ (v3 : Int32) (v2 : Int32) (D_reach : Nat → Int32) (D_edge : Nat → Int32), k29 v3 v2 D_reach D_edge = some (z_r, z_D_reach, z_D_edge) → J (W_X7_roots cI cS cII DA D_length D_text D_levels D_readLevels D_readAsked D_asked D_readKinds D_now D_before D_undoMany D_kept D_keptMany D_refused D_roundMany D_roundOver D_round D_terms D_termLevel D_termAdd D_spot D_number D_reach D_edge D_by) 29 [(3, .int v3), (2, .int v2), (0, .ref (DA 0)), (1, .int a1)] []) : ∀ (v4 : Int32) (v3 : Int32) (v2 : Int32) (D_reach : Nat → Int32) (D_edge : Nat → Int32), q_X7_roots_157 D_levels D_now a1 k29 v4 v3 v2 D_reach D_edge = some (z_r, z_D_reach, z_D_edge) → J (W_X7_roots cI cS cII DA D_length D_text D_levels D_readLevels D_readAsked D_asked D_readKinds D_now D_before D_undoMany D_kept D_keptMany D_refused D_roundMany D_roundOver D_round D_terms D_termLevel D_termAdd D_spot D_number D_reach D_edge D_by) 157 [(4, .int v4), (3, .int v3), (2, .int v2), (0, .ref (DA 0)), (1, .int a1)] [] := by
  intro v4 v3 v2 D_reach D_edge hF
  unfold q_X7_roots_157 at hF
  refine jj_iload_n hJ dX7_roots_157 2 rfl rfl ?_
  refine jj_iload hJ dX7_roots_158 0 rfl ?_
  refine jj_if_eq hJ 169 dX7_roots_160 rfl (fun c1 => ?_) (fun c1 => ?_)
  · replace hF := ip c1 hF
    refine jj_iconst hJ dX7_roots_169 ic_0 ?_
    refine jj_ior hJ dX7_roots_170 ?_
    refine jj_istore_n hJ dX7_roots_171 rfl (Nat.le_of_ble_eq_true rfl) (lv' := [(2, .int (v2 ||| 0)), (4, .int v4), (3, .int v3), (0, .ref (DA 0)), (1, .int a1)]) rfl ?_
    refine jj_iinc hJ dX7_roots_172 2 rfl (v := v3 + 1) (by rw [ic_1]) (Nat.le_of_ble_eq_true rfl) (lv' := [(3, .int (v3 + 1)), (2, .int (v2 ||| 0)), (4, .int v4), (0, .ref (DA 0)), (1, .int a1)]) rfl ?_
    refine jj_goto hJ 29 dX7_roots_175 rfl ?_
    refine jj_lv hJ [0, 1, 3, 4] (lv' := [(3, .int (v3 + 1)), (2, .int (v2 ||| 0)), (0, .ref (DA 0)), (1, .int a1)]) rfl ?_
    exact hk29 (v3 + 1) (v2 ||| 0) D_reach D_edge hF
  · replace hF := iq c1 hF
    refine jj_iconst hJ dX7_roots_163 ic_1 ?_
    refine jj_iload_n hJ dX7_roots_164 1 rfl rfl ?_
    refine jj_ishl hJ dX7_roots_165 ?_
    refine jj_goto hJ 170 dX7_roots_166 rfl ?_
    refine jj_ior hJ dX7_roots_170 ?_
    refine jj_istore_n hJ dX7_roots_171 rfl (Nat.le_of_ble_eq_true rfl) (lv' := [(2, .int (v2 ||| (1 <<< (v3 &&& 31)))), (4, .int v4), (3, .int v3), (0, .ref (DA 0)), (1, .int a1)]) rfl ?_
    refine jj_iinc hJ dX7_roots_172 2 rfl (v := v3 + 1) (by rw [ic_1]) (Nat.le_of_ble_eq_true rfl) (lv' := [(3, .int (v3 + 1)), (2, .int (v2 ||| (1 <<< (v3 &&& 31)))), (4, .int v4), (0, .ref (DA 0)), (1, .int a1)]) rfl ?_
    refine jj_goto hJ 29 dX7_roots_175 rfl ?_
    refine jj_lv hJ [0, 1, 3, 4] (lv' := [(3, .int (v3 + 1)), (2, .int (v2 ||| (1 <<< (v3 &&& 31)))), (0, .ref (DA 0)), (1, .int a1)]) rfl ?_
    exact hk29 (v3 + 1) (v2 ||| (1 <<< (v3 &&& 31))) D_reach D_edge hF
def q_X7_roots_48 (D_levels : Int32) (D_now : Nat → Int32) (a1 : Int32) (k29 : Int32 → Int32 → (Nat → Int32) → (Nat → Int32) → Option (Int32 × (Nat → Int32) × (Nat → Int32))) : Nat → Int32 → Int32 → Int32 → Int32 → (Nat → Int32) → (Nat → Int32) → Option (Int32 × (Nat → Int32) × (Nat → Int32))
  | 0, _, _, _, _, _, _ => none
  | n + 1, v5, v4, v3, v2, D_reach, D_edge => if D_levels ≤ v5 then (q_X7_roots_157 D_levels D_now a1 k29 v4 v3 v2 D_reach D_edge) else (if v5 = v3 then (q_X7_roots_48 D_levels D_now a1 k29 n (v5 + 1) v4 v3 v2 D_reach D_edge) else ((p_X7_isRoot D_now D_reach v5 a1).bind fun r4 => if r4 = 0 then (q_X7_roots_48 D_levels D_now a1 k29 n (v5 + 1) v4 v3 v2 D_reach D_edge) else ((p_X7_isRoot D_now D_reach v3 a1).bind fun r7 => if r7 = 0 then (q_X7_roots_48 D_levels D_now a1 k29 n (v5 + 1) v4 v3 v2 D_reach D_edge) else ((rd D_reach 100 ((10 * v3) + a1)).bind fun x9 => (rd D_reach 100 ((10 * v5) + a1)).bind fun x11 => if v4 = 0 then (q_X7_roots_48 D_levels D_now a1 k29 n (v5 + 1) 0 v3 v2 D_reach D_edge) else ((p_X7_isSo D_reach v3 (x9 - x11) v5).bind fun r15 => if r15 = 0 then (q_X7_roots_48 D_levels D_now a1 k29 n (v5 + 1) 1 v3 v2 D_reach D_edge) else (if v5 < v3 then (q_X7_roots_48 D_levels D_now a1 k29 n (v5 + 1) 0 v3 v2 D_reach D_edge) else ((p_X7_isSo D_reach v5 (-(x9 - x11)) v3).bind fun r19 => if r19 = 0 then (q_X7_roots_48 D_levels D_now a1 k29 n (v5 + 1) 0 v3 v2 D_reach D_edge) else (q_X7_roots_48 D_levels D_now a1 k29 n (v5 + 1) 1 v3 v2 D_reach D_edge))))))))
set_option maxRecDepth 100000 in
theorem w_X7_roots_48 {D_length : Int32} {D_text : Nat → Int32} {D_levels : Int32} {D_readLevels : Int32} {D_readAsked : Int32} {D_asked : Nat → Int32} {D_readKinds : Nat → Int32} {D_now : Nat → Int32} {D_before : Nat → Int32} {D_undoMany : Int32} {D_kept : Nat → Int32} {D_keptMany : Int32} {D_refused : Int32} {D_roundMany : Int32} {D_roundOver : Int32} {D_round : Nat → Int32} {D_terms : Int32} {D_termLevel : Nat → Int32} {D_termAdd : Nat → Int32} {D_spot : Int32} {D_number : Nat → Int32} {D_by : Nat → Int32} {a1 : Int32} {k29 : Int32 → Int32 → (Nat → Int32) → (Nat → Int32) → Option (Int32 × (Nat → Int32) × (Nat → Int32))} (hJ : jJ l cX7_roots 7 D (tysU cI cS cII) RX7 Rm_X7_roots (some .int) A (some z_r) (W_X7_roots cI cS cII DA D_length D_text D_levels D_readLevels D_readAsked D_asked D_readKinds D_now D_before D_undoMany D_kept D_keptMany D_refused D_roundMany D_roundOver D_round D_terms D_termLevel D_termAdd D_spot D_number z_D_reach z_D_edge D_by) J) (hk29 : ∀ (v3 : Int32) (v2 : Int32) (D_reach : Nat → Int32) (D_edge : Nat → Int32), k29 v3 v2 D_reach D_edge = some (z_r, z_D_reach, z_D_edge) → J (W_X7_roots cI cS cII DA D_length D_text D_levels D_readLevels D_readAsked D_asked D_readKinds D_now D_before D_undoMany D_kept D_keptMany D_refused D_roundMany D_roundOver D_round D_terms D_termLevel D_termAdd D_spot D_number D_reach D_edge D_by) 29 [(3, .int v3), (2, .int v2), (0, .ref (DA 0)), (1, .int a1)] []) : ∀ (n : Nat) (v5 : Int32) (v4 : Int32) (v3 : Int32) (v2 : Int32) (D_reach : Nat → Int32) (D_edge : Nat → Int32), q_X7_roots_48 D_levels D_now a1 k29 n v5 v4 v3 v2 D_reach D_edge = some (z_r, z_D_reach, z_D_edge) → J (W_X7_roots cI cS cII DA D_length D_text D_levels D_readLevels D_readAsked D_asked D_readKinds D_now D_before D_undoMany D_kept D_keptMany D_refused D_roundMany D_roundOver D_round D_terms D_termLevel D_termAdd D_spot D_number D_reach D_edge D_by) 48 [(5, .int v5), (4, .int v4), (3, .int v3), (2, .int v2), (0, .ref (DA 0)), (1, .int a1)] [] := by
  intro n
  induction n with
  | zero =>
    intro v5 v4 v3 v2 D_reach D_edge hF
    exact no_some (show (none : Option (Int32 × (Nat → Int32) × (Nat → Int32))) = some (z_r, z_D_reach, z_D_edge) from hF)
  | succ n ih =>
    intro v5 v4 v3 v2 D_reach D_edge hF
    rw [q_X7_roots_48.eq_2] at hF
    refine jj_iload hJ dX7_roots_48 0 rfl ?_
    refine jj_aload_n hJ dX7_roots_50 4 rfl rfl ?_
    refine jj_get hJ lay_X7 dX7_roots_51 0 2 rfl rfl (Nat.le_of_ble_eq_true rfl) kw_186 rfl ?_
    refine jj_icmp_ge hJ 157 dX7_roots_54 rfl (fun c1 => ?_) (fun c1 => ?_)
    · replace hF := ip c1 hF
      refine jj_lv hJ [1, 2, 3, 4, 5] (lv' := [(4, .int v4), (3, .int v3), (2, .int v2), (0, .ref (DA 0)), (1, .int a1)]) rfl ?_
      exact w_X7_roots_157 hJ hk29 v4 v3 v2 D_reach D_edge hF
    · replace hF := iq c1 hF
      refine jj_iload hJ dX7_roots_57 0 rfl ?_
      refine jj_iload_n hJ dX7_roots_59 2 rfl rfl ?_
      refine jj_icmp_eq hJ 151 dX7_roots_60 rfl (fun c2 => ?_) (fun c2 => ?_)
      · replace hF := ip c2 hF
        refine jj_iinc hJ dX7_roots_151 0 rfl (v := v5 + 1) (by rw [ic_1]) (Nat.le_of_ble_eq_true rfl) (lv' := [(5, .int (v5 + 1)), (4, .int v4), (3, .int v3), (2, .int v2), (0, .ref (DA 0)), (1, .int a1)]) rfl ?_
        refine jj_goto hJ 48 dX7_roots_154 rfl ?_
        exact ih (v5 + 1) v4 v3 v2 D_reach D_edge hF
      · replace hF := iq c2 hF
        refine jj_aload_n hJ dX7_roots_63 4 rfl rfl ?_
        refine jj_iload hJ dX7_roots_64 0 rfl ?_
        refine jj_iload_n hJ dX7_roots_66 5 rfl rfl ?_
        obtain ⟨r4, h3, hF⟩ := ob hF
        refine jj_callV0 hJ (c_X7_isRoot l D cI cS cII DA D_length D_text D_levels D_readLevels D_readAsked D_asked D_readKinds D_now D_before D_undoMany D_kept D_keptMany D_refused D_roundMany D_roundOver D_round D_terms D_termLevel D_termAdd D_spot D_number D_reach D_edge D_by v5 a1 h3) dX7_roots_67 kw_280 ⟨Nat.le_of_ble_eq_true rfl, Nat.le_of_ble_eq_true rfl, rfl, rfl⟩ kw_279 kw_281 kw_282 0 rfl rfl rfl rfl (Nat.le_of_ble_eq_true rfl) [0, 1, 2, 3, 4, 5, 6, 7, 8, 9, 10, 11, 12, 13] rfl rfl ?_
        refine jj_if_eq hJ 151 dX7_roots_70 rfl (fun c5 => ?_) (fun c5 => ?_)
        · replace hF := ip c5 hF
          refine jj_iinc hJ dX7_roots_151 0 rfl (v := v5 + 1) (by rw [ic_1]) (Nat.le_of_ble_eq_true rfl) (lv' := [(5, .int (v5 + 1)), (4, .int v4), (3, .int v3), (2, .int v2), (0, .ref (DA 0)), (1, .int a1)]) rfl ?_
          refine jj_goto hJ 48 dX7_roots_154 rfl ?_
          exact ih (v5 + 1) v4 v3 v2 D_reach D_edge hF
        · replace hF := iq c5 hF
          refine jj_aload_n hJ dX7_roots_73 4 rfl rfl ?_
          refine jj_iload_n hJ dX7_roots_74 2 rfl rfl ?_
          refine jj_iload_n hJ dX7_roots_75 5 rfl rfl ?_
          obtain ⟨r7, h6, hF⟩ := ob hF
          refine jj_callV0 hJ (c_X7_isRoot l D cI cS cII DA D_length D_text D_levels D_readLevels D_readAsked D_asked D_readKinds D_now D_before D_undoMany D_kept D_keptMany D_refused D_roundMany D_roundOver D_round D_terms D_termLevel D_termAdd D_spot D_number D_reach D_edge D_by v3 a1 h6) dX7_roots_76 kw_280 ⟨Nat.le_of_ble_eq_true rfl, Nat.le_of_ble_eq_true rfl, rfl, rfl⟩ kw_279 kw_281 kw_282 0 rfl rfl rfl rfl (Nat.le_of_ble_eq_true rfl) [0, 1, 2, 3, 4, 5, 6, 7, 8, 9, 10, 11, 12, 13] rfl rfl ?_
          refine jj_if_eq hJ 151 dX7_roots_79 rfl (fun c8 => ?_) (fun c8 => ?_)
          · replace hF := ip c8 hF
            refine jj_iinc hJ dX7_roots_151 0 rfl (v := v5 + 1) (by rw [ic_1]) (Nat.le_of_ble_eq_true rfl) (lv' := [(5, .int (v5 + 1)), (4, .int v4), (3, .int v3), (2, .int v2), (0, .ref (DA 0)), (1, .int a1)]) rfl ?_
            refine jj_goto hJ 48 dX7_roots_154 rfl ?_
            exact ih (v5 + 1) v4 v3 v2 D_reach D_edge hF
          · replace hF := iq c8 hF
            refine jj_aload_n hJ dX7_roots_82 4 rfl rfl ?_
            refine jj_get hJ lay_X7 dX7_roots_83 0 21 rfl rfl (Nat.le_of_ble_eq_true rfl) kw_185 rfl ?_
            refine jj_bipush hJ dX7_roots_86 bp_10 ?_
            refine jj_iload_n hJ dX7_roots_88 2 rfl rfl ?_
            refine jj_imul hJ dX7_roots_89 ?_
            refine jj_iload_n hJ dX7_roots_90 5 rfl rfl ?_
            refine jj_iadd hJ dX7_roots_91 ?_
            obtain ⟨x9, h10, hF⟩ := ob hF
            refine jj_iald hJ dX7_roots_92 11 0 rfl rfl h10 ?_
            refine jj_aload_n hJ dX7_roots_93 4 rfl rfl ?_
            refine jj_get hJ lay_X7 dX7_roots_94 0 21 rfl rfl (Nat.le_of_ble_eq_true rfl) kw_185 rfl ?_
            refine jj_bipush hJ dX7_roots_97 bp_10 ?_
            refine jj_iload hJ dX7_roots_99 0 rfl ?_
            refine jj_imul hJ dX7_roots_101 ?_
            refine jj_iload_n hJ dX7_roots_102 5 rfl rfl ?_
            refine jj_iadd hJ dX7_roots_103 ?_
            obtain ⟨x11, h12, hF⟩ := ob hF
            refine jj_iald hJ dX7_roots_104 11 0 rfl rfl h12 ?_
            refine jj_isub hJ dX7_roots_105 ?_
            refine jj_istore hJ dX7_roots_106 (Nat.le_of_ble_eq_true rfl) (lv' := [(6, .int (x9 - x11)), (5, .int v5), (4, .int v4), (3, .int v3), (2, .int v2), (0, .ref (DA 0)), (1, .int a1)]) rfl ?_
            refine jj_iload hJ dX7_roots_108 2 rfl ?_
            refine jj_if_eq hJ 148 dX7_roots_110 rfl (fun c13 => ?_) (fun c13 => ?_)
            · replace hF := ip c13 hF
              refine jj_iconst hJ dX7_roots_148 ic_0 ?_
              refine jj_istore hJ dX7_roots_149 (Nat.le_of_ble_eq_true rfl) (lv' := [(4, .int 0), (6, .int (x9 - x11)), (5, .int v5), (3, .int v3), (2, .int v2), (0, .ref (DA 0)), (1, .int a1)]) rfl ?_
              refine jj_iinc hJ dX7_roots_151 2 rfl (v := v5 + 1) (by rw [ic_1]) (Nat.le_of_ble_eq_true rfl) (lv' := [(5, .int (v5 + 1)), (4, .int 0), (6, .int (x9 - x11)), (3, .int v3), (2, .int v2), (0, .ref (DA 0)), (1, .int a1)]) rfl ?_
              refine jj_goto hJ 48 dX7_roots_154 rfl ?_
              refine jj_lv hJ [0, 1, 3, 4, 5, 6] (lv' := [(5, .int (v5 + 1)), (4, .int 0), (3, .int v3), (2, .int v2), (0, .ref (DA 0)), (1, .int a1)]) rfl ?_
              exact ih (v5 + 1) 0 v3 v2 D_reach D_edge hF
            · replace hF := iq c13 hF
              refine jj_aload_n hJ dX7_roots_113 5 rfl rfl ?_
              refine jj_iload_n hJ dX7_roots_114 3 rfl rfl ?_
              refine jj_iload hJ dX7_roots_115 0 rfl ?_
              refine jj_iload hJ dX7_roots_117 1 rfl ?_
              obtain ⟨r15, h14, hF⟩ := ob hF
              refine jj_callV0 hJ (c_X7_isSo l D cI cS cII DA D_length D_text D_levels D_readLevels D_readAsked D_asked D_readKinds D_now D_before D_undoMany D_kept D_keptMany D_refused D_roundMany D_roundOver D_round D_terms D_termLevel D_termAdd D_spot D_number D_reach D_edge D_by v3 (x9 - x11) v5 h14) dX7_roots_119 kw_260 ⟨Nat.le_of_ble_eq_true rfl, Nat.le_of_ble_eq_true rfl, rfl, rfl⟩ kw_259 kw_261 kw_262 0 rfl rfl rfl rfl (Nat.le_of_ble_eq_true rfl) [0, 1, 2, 3, 4, 5, 6, 7, 8, 9, 10, 11, 12, 13] rfl rfl ?_
              refine jj_if_eq hJ 144 dX7_roots_122 rfl (fun c16 => ?_) (fun c16 => ?_)
              · replace hF := ip c16 hF
                refine jj_iconst hJ dX7_roots_144 ic_1 ?_
                refine jj_goto hJ 149 dX7_roots_145 rfl ?_
                refine jj_istore hJ dX7_roots_149 (Nat.le_of_ble_eq_true rfl) (lv' := [(4, .int 1), (6, .int (x9 - x11)), (5, .int v5), (3, .int v3), (2, .int v2), (0, .ref (DA 0)), (1, .int a1)]) rfl ?_
                refine jj_iinc hJ dX7_roots_151 2 rfl (v := v5 + 1) (by rw [ic_1]) (Nat.le_of_ble_eq_true rfl) (lv' := [(5, .int (v5 + 1)), (4, .int 1), (6, .int (x9 - x11)), (3, .int v3), (2, .int v2), (0, .ref (DA 0)), (1, .int a1)]) rfl ?_
                refine jj_goto hJ 48 dX7_roots_154 rfl ?_
                refine jj_lv hJ [0, 1, 3, 4, 5, 6] (lv' := [(5, .int (v5 + 1)), (4, .int 1), (3, .int v3), (2, .int v2), (0, .ref (DA 0)), (1, .int a1)]) rfl ?_
                exact ih (v5 + 1) 1 v3 v2 D_reach D_edge hF
              · replace hF := iq c16 hF
                refine jj_iload hJ dX7_roots_125 1 rfl ?_
                refine jj_iload_n hJ dX7_roots_127 3 rfl rfl ?_
                refine jj_icmp_lt hJ 148 dX7_roots_128 rfl (fun c17 => ?_) (fun c17 => ?_)
                · replace hF := ip c17 hF
                  refine jj_iconst hJ dX7_roots_148 ic_0 ?_
                  refine jj_istore hJ dX7_roots_149 (Nat.le_of_ble_eq_true rfl) (lv' := [(4, .int 0), (6, .int (x9 - x11)), (5, .int v5), (3, .int v3), (2, .int v2), (0, .ref (DA 0)), (1, .int a1)]) rfl ?_
                  refine jj_iinc hJ dX7_roots_151 2 rfl (v := v5 + 1) (by rw [ic_1]) (Nat.le_of_ble_eq_true rfl) (lv' := [(5, .int (v5 + 1)), (4, .int 0), (6, .int (x9 - x11)), (3, .int v3), (2, .int v2), (0, .ref (DA 0)), (1, .int a1)]) rfl ?_
                  refine jj_goto hJ 48 dX7_roots_154 rfl ?_
                  refine jj_lv hJ [0, 1, 3, 4, 5, 6] (lv' := [(5, .int (v5 + 1)), (4, .int 0), (3, .int v3), (2, .int v2), (0, .ref (DA 0)), (1, .int a1)]) rfl ?_
                  exact ih (v5 + 1) 0 v3 v2 D_reach D_edge hF
                · replace hF := iq c17 hF
                  refine jj_aload_n hJ dX7_roots_131 5 rfl rfl ?_
                  refine jj_iload hJ dX7_roots_132 1 rfl ?_
                  refine jj_iload hJ dX7_roots_134 0 rfl ?_
                  refine jj_ineg hJ dX7_roots_136 ?_
                  refine jj_iload_n hJ dX7_roots_137 3 rfl rfl ?_
                  obtain ⟨r19, h18, hF⟩ := ob hF
                  refine jj_callV0 hJ (c_X7_isSo l D cI cS cII DA D_length D_text D_levels D_readLevels D_readAsked D_asked D_readKinds D_now D_before D_undoMany D_kept D_keptMany D_refused D_roundMany D_roundOver D_round D_terms D_termLevel D_termAdd D_spot D_number D_reach D_edge D_by v5 (-(x9 - x11)) v3 h18) dX7_roots_138 kw_260 ⟨Nat.le_of_ble_eq_true rfl, Nat.le_of_ble_eq_true rfl, rfl, rfl⟩ kw_259 kw_261 kw_262 0 rfl rfl rfl rfl (Nat.le_of_ble_eq_true rfl) [0, 1, 2, 3, 4, 5, 6, 7, 8, 9, 10, 11, 12, 13] rfl rfl ?_
                  refine jj_if_eq hJ 148 dX7_roots_141 rfl (fun c20 => ?_) (fun c20 => ?_)
                  · replace hF := ip c20 hF
                    refine jj_iconst hJ dX7_roots_148 ic_0 ?_
                    refine jj_istore hJ dX7_roots_149 (Nat.le_of_ble_eq_true rfl) (lv' := [(4, .int 0), (6, .int (x9 - x11)), (5, .int v5), (3, .int v3), (2, .int v2), (0, .ref (DA 0)), (1, .int a1)]) rfl ?_
                    refine jj_iinc hJ dX7_roots_151 2 rfl (v := v5 + 1) (by rw [ic_1]) (Nat.le_of_ble_eq_true rfl) (lv' := [(5, .int (v5 + 1)), (4, .int 0), (6, .int (x9 - x11)), (3, .int v3), (2, .int v2), (0, .ref (DA 0)), (1, .int a1)]) rfl ?_
                    refine jj_goto hJ 48 dX7_roots_154 rfl ?_
                    refine jj_lv hJ [0, 1, 3, 4, 5, 6] (lv' := [(5, .int (v5 + 1)), (4, .int 0), (3, .int v3), (2, .int v2), (0, .ref (DA 0)), (1, .int a1)]) rfl ?_
                    exact ih (v5 + 1) 0 v3 v2 D_reach D_edge hF
                  · replace hF := iq c20 hF
                    refine jj_iconst hJ dX7_roots_144 ic_1 ?_
                    refine jj_goto hJ 149 dX7_roots_145 rfl ?_
                    refine jj_istore hJ dX7_roots_149 (Nat.le_of_ble_eq_true rfl) (lv' := [(4, .int 1), (6, .int (x9 - x11)), (5, .int v5), (3, .int v3), (2, .int v2), (0, .ref (DA 0)), (1, .int a1)]) rfl ?_
                    refine jj_iinc hJ dX7_roots_151 2 rfl (v := v5 + 1) (by rw [ic_1]) (Nat.le_of_ble_eq_true rfl) (lv' := [(5, .int (v5 + 1)), (4, .int 1), (6, .int (x9 - x11)), (3, .int v3), (2, .int v2), (0, .ref (DA 0)), (1, .int a1)]) rfl ?_
                    refine jj_goto hJ 48 dX7_roots_154 rfl ?_
                    refine jj_lv hJ [0, 1, 3, 4, 5, 6] (lv' := [(5, .int (v5 + 1)), (4, .int 1), (3, .int v3), (2, .int v2), (0, .ref (DA 0)), (1, .int a1)]) rfl ?_
                    exact ih (v5 + 1) 1 v3 v2 D_reach D_edge hF
def q_X7_roots_29 (D_levels : Int32) (D_now : Nat → Int32) (a1 : Int32)  : Nat → Int32 → Int32 → (Nat → Int32) → (Nat → Int32) → Option (Int32 × (Nat → Int32) × (Nat → Int32))
  | 0, _, _, _, _ => none
  | n + 1, v3, v2, D_reach, D_edge => if D_levels ≤ v3 then (some (v2, D_reach, D_edge)) else ((p_X7_isRoot D_now D_reach v3 a1).bind fun r3 => q_X7_roots_48 D_levels D_now a1 (q_X7_roots_29 D_levels D_now a1 n) FU 0 r3 v3 v2 D_reach D_edge)
set_option maxRecDepth 100000 in
theorem w_X7_roots_29 {D_length : Int32} {D_text : Nat → Int32} {D_levels : Int32} {D_readLevels : Int32} {D_readAsked : Int32} {D_asked : Nat → Int32} {D_readKinds : Nat → Int32} {D_now : Nat → Int32} {D_before : Nat → Int32} {D_undoMany : Int32} {D_kept : Nat → Int32} {D_keptMany : Int32} {D_refused : Int32} {D_roundMany : Int32} {D_roundOver : Int32} {D_round : Nat → Int32} {D_terms : Int32} {D_termLevel : Nat → Int32} {D_termAdd : Nat → Int32} {D_spot : Int32} {D_number : Nat → Int32} {D_by : Nat → Int32} {a1 : Int32}  (hJ : jJ l cX7_roots 7 D (tysU cI cS cII) RX7 Rm_X7_roots (some .int) A (some z_r) (W_X7_roots cI cS cII DA D_length D_text D_levels D_readLevels D_readAsked D_asked D_readKinds D_now D_before D_undoMany D_kept D_keptMany D_refused D_roundMany D_roundOver D_round D_terms D_termLevel D_termAdd D_spot D_number z_D_reach z_D_edge D_by) J)  : ∀ (n : Nat) (v3 : Int32) (v2 : Int32) (D_reach : Nat → Int32) (D_edge : Nat → Int32), q_X7_roots_29 D_levels D_now a1 n v3 v2 D_reach D_edge = some (z_r, z_D_reach, z_D_edge) → J (W_X7_roots cI cS cII DA D_length D_text D_levels D_readLevels D_readAsked D_asked D_readKinds D_now D_before D_undoMany D_kept D_keptMany D_refused D_roundMany D_roundOver D_round D_terms D_termLevel D_termAdd D_spot D_number D_reach D_edge D_by) 29 [(3, .int v3), (2, .int v2), (0, .ref (DA 0)), (1, .int a1)] [] := by
  intro n
  induction n with
  | zero =>
    intro v3 v2 D_reach D_edge hF
    exact no_some (show (none : Option (Int32 × (Nat → Int32) × (Nat → Int32))) = some (z_r, z_D_reach, z_D_edge) from hF)
  | succ n ih =>
    intro v3 v2 D_reach D_edge hF
    rw [q_X7_roots_29.eq_2] at hF
    refine jj_iload_n hJ dX7_roots_29 0 rfl rfl ?_
    refine jj_aload_n hJ dX7_roots_30 2 rfl rfl ?_
    refine jj_get hJ lay_X7 dX7_roots_31 0 2 rfl rfl (Nat.le_of_ble_eq_true rfl) kw_186 rfl ?_
    refine jj_icmp_ge hJ 178 dX7_roots_34 rfl (fun c1 => ?_) (fun c1 => ?_)
    · replace hF := ip c1 hF
      refine jj_iload_n hJ dX7_roots_178 1 rfl rfl ?_
      cases Option.some.inj hF
      exact jj_iret hJ dX7_roots_179
    · replace hF := iq c1 hF
      refine jj_aload_n hJ dX7_roots_37 2 rfl rfl ?_
      refine jj_iload_n hJ dX7_roots_38 0 rfl rfl ?_
      refine jj_iload_n hJ dX7_roots_39 3 rfl rfl ?_
      obtain ⟨r3, h2, hF⟩ := ob hF
      refine jj_callV0 hJ (c_X7_isRoot l D cI cS cII DA D_length D_text D_levels D_readLevels D_readAsked D_asked D_readKinds D_now D_before D_undoMany D_kept D_keptMany D_refused D_roundMany D_roundOver D_round D_terms D_termLevel D_termAdd D_spot D_number D_reach D_edge D_by v3 a1 h2) dX7_roots_40 kw_280 ⟨Nat.le_of_ble_eq_true rfl, Nat.le_of_ble_eq_true rfl, rfl, rfl⟩ kw_279 kw_281 kw_282 0 rfl rfl rfl rfl (Nat.le_of_ble_eq_true rfl) [0, 1, 2, 3, 4, 5, 6, 7, 8, 9, 10, 11, 12, 13] rfl rfl ?_
      refine jj_istore hJ dX7_roots_43 (Nat.le_of_ble_eq_true rfl) (lv' := [(4, .int r3), (3, .int v3), (2, .int v2), (0, .ref (DA 0)), (1, .int a1)]) rfl ?_
      refine jj_iconst hJ dX7_roots_45 ic_0 ?_
      refine jj_istore hJ dX7_roots_46 (Nat.le_of_ble_eq_true rfl) (lv' := [(5, .int 0), (4, .int r3), (3, .int v3), (2, .int v2), (0, .ref (DA 0)), (1, .int a1)]) rfl ?_
      exact w_X7_roots_48 hJ (fun v3 v2 D_reach D_edge => ih v3 v2 D_reach D_edge) FU 0 r3 v3 v2 D_reach D_edge hF
def p_X7_roots (D_levels : Int32) (D_now : Nat → Int32) (D_reach : Nat → Int32) (D_edge : Nat → Int32) (a1 : Int32) : Option (Int32 × (Nat → Int32) × (Nat → Int32)) := (p_X7_isLevel D_levels a1).bind fun r2 => if r2 = 0 then (some ((-1), D_reach, D_edge)) else ((p_X7_isFloating D_now a1).bind fun r5 => if r5 = 0 then (some ((-2), D_reach, D_edge)) else ((p_X7_find D_levels D_now D_reach D_edge).bind fun (g8, g9) => q_X7_roots_29 D_levels D_now a1 FU 0 0 g8 g9))
end
set_option maxRecDepth 100000 in
theorem c_X7_roots (l : Launch) (D : va_G) (cI cS cII : ClassId) (DA : Nat → Nat) (D_length : Int32) (D_text : Nat → Int32) (D_levels : Int32) (D_readLevels : Int32) (D_readAsked : Int32) (D_asked : Nat → Int32) (D_readKinds : Nat → Int32) (D_now : Nat → Int32) (D_before : Nat → Int32) (D_undoMany : Int32) (D_kept : Nat → Int32) (D_keptMany : Int32) (D_refused : Int32) (D_roundMany : Int32) (D_roundOver : Int32) (D_round : Nat → Int32) (D_terms : Int32) (D_termLevel : Nat → Int32) (D_termAdd : Nat → Int32) (D_spot : Int32) (D_number : Nat → Int32) (D_reach : Nat → Int32) (D_edge : Nat → Int32) (D_by : Nat → Int32) (a1 : Int32) {z_r : Int32} {z_D_reach : Nat → Int32} {z_D_edge : Nat → Int32} (hF : p_X7_roots D_levels D_now D_reach D_edge a1 = some (z_r, z_D_reach, z_D_edge)) : MJ l yX7_roots cX7_roots 7 (some .int) Rm_X7_roots D (tysU cI cS cII) [.ref (DA 0), .int a1] (W_X7_roots cI cS cII DA D_length D_text D_levels D_readLevels D_readAsked D_asked D_readKinds D_now D_before D_undoMany D_kept D_keptMany D_refused D_roundMany D_roundOver D_round D_terms D_termLevel D_termAdd D_spot D_number D_reach D_edge D_by) (some z_r) (W_X7_roots cI cS cII DA D_length D_text D_levels D_readLevels D_readAsked D_asked D_readKinds D_now D_before D_undoMany D_kept D_keptMany D_refused D_roundMany D_roundOver D_round D_terms D_termLevel D_termAdd D_spot D_number z_D_reach z_D_edge D_by) := by
  refine mj_of (own := RX7) (by decide) rfl (Nat.le_of_ble_eq_true rfl) (fun J hJ => ?_)
  show J (W_X7_roots cI cS cII DA D_length D_text D_levels D_readLevels D_readAsked D_asked D_readKinds D_now D_before D_undoMany D_kept D_keptMany D_refused D_roundMany D_roundOver D_round D_terms D_termLevel D_termAdd D_spot D_number D_reach D_edge D_by) 0 [(0, .ref (DA 0)), (1, .int a1)] []
  unfold p_X7_roots at hF
  refine jj_aload_n hJ dX7_roots_0 0 rfl rfl ?_
  refine jj_iload_n hJ dX7_roots_1 1 rfl rfl ?_
  obtain ⟨r2, h1, hF⟩ := ob hF
  refine jj_callV0 hJ (c_X7_isLevel l D cI cS cII DA D_length D_text D_levels D_readLevels D_readAsked D_asked D_readKinds D_now D_before D_undoMany D_kept D_keptMany D_refused D_roundMany D_roundOver D_round D_terms D_termLevel D_termAdd D_spot D_number D_reach D_edge D_by a1 h1) dX7_roots_2 kw_232 ⟨Nat.le_of_ble_eq_true rfl, Nat.le_of_ble_eq_true rfl, rfl, rfl⟩ kw_231 kw_233 kw_234 0 rfl rfl rfl rfl (Nat.le_of_ble_eq_true rfl) [0, 1, 2, 3, 4, 5, 6, 7, 8, 9, 10, 11, 12, 13] rfl rfl ?_
  refine jj_if_ne hJ 10 dX7_roots_5 rfl (fun c3 => ?_) (fun c3 => ?_)
  · replace hF := iq c3 hF
    refine jj_aload_n hJ dX7_roots_10 0 rfl rfl ?_
    refine jj_iload_n hJ dX7_roots_11 1 rfl rfl ?_
    obtain ⟨r5, h4, hF⟩ := ob hF
    refine jj_callV0 hJ (c_X7_isFloating l D cI cS cII DA D_length D_text D_levels D_readLevels D_readAsked D_asked D_readKinds D_now D_before D_undoMany D_kept D_keptMany D_refused D_roundMany D_roundOver D_round D_terms D_termLevel D_termAdd D_spot D_number D_reach D_edge D_by a1 h4) dX7_roots_12 kw_241 ⟨Nat.le_of_ble_eq_true rfl, Nat.le_of_ble_eq_true rfl, rfl, rfl⟩ kw_240 kw_242 kw_243 0 rfl rfl rfl rfl (Nat.le_of_ble_eq_true rfl) [0, 1, 2, 3, 4, 5, 6, 7, 8, 9, 10, 11, 12, 13] rfl rfl ?_
    refine jj_if_ne hJ 21 dX7_roots_15 rfl (fun c6 => ?_) (fun c6 => ?_)
    · replace hF := iq c6 hF
      refine jj_aload_n hJ dX7_roots_21 0 rfl rfl ?_
      obtain ⟨⟨g8, g9⟩, h7, hF⟩ := ob hF
      refine jj_callV hJ (c_X7_find l D cI cS cII DA D_length D_text D_levels D_readLevels D_readAsked D_asked D_readKinds D_now D_before D_undoMany D_kept D_keptMany D_refused D_roundMany D_roundOver D_round D_terms D_termLevel D_termAdd D_spot D_number D_reach D_edge D_by  h7) dX7_roots_22 kw_203 ⟨Nat.le_of_ble_eq_true rfl, Nat.le_of_ble_eq_true rfl, rfl, rfl⟩ kw_202 kw_204 kw_205 0 rfl rfl rfl rfl (Nat.le_of_ble_eq_true rfl) [0, 1, 2, 3, 4, 5, 6, 7, 8, 9, 10, 11, 12, 13] rfl rfl (wn := (W_X7_roots cI cS cII DA D_length D_text D_levels D_readLevels D_readAsked D_asked D_readKinds D_now D_before D_undoMany D_kept D_keptMany D_refused D_roundMany D_roundOver D_round D_terms D_termLevel D_termAdd D_spot D_number g8 g9 D_by)) (jNew_sel rfl [some 0, some 1, some 2, some 3, some 4, some 5, some 6, some 7, some 8, some 9, some 10, some 11, some 12, some 13] (by decide +kernel) rfl) ?_
      refine jj_iconst hJ dX7_roots_25 ic_0 ?_
      refine jj_istore_n hJ dX7_roots_26 rfl (Nat.le_of_ble_eq_true rfl) (lv' := [(2, .int 0), (0, .ref (DA 0)), (1, .int a1)]) rfl ?_
      refine jj_iconst hJ dX7_roots_27 ic_0 ?_
      refine jj_istore_n hJ dX7_roots_28 rfl (Nat.le_of_ble_eq_true rfl) (lv' := [(3, .int 0), (2, .int 0), (0, .ref (DA 0)), (1, .int a1)]) rfl ?_
      exact w_X7_roots_29 hJ  FU 0 0 g8 g9 hF
    · replace hF := ip c6 hF
      refine jj_bipush hJ dX7_roots_18 bp_m2 ?_
      cases Option.some.inj hF
      exact jj_iret hJ dX7_roots_20
  · replace hF := ip c3 hF
    refine jj_iconst hJ dX7_roots_8 ic_m1 ?_
    cases Option.some.inj hF
    exact jj_iret hJ dX7_roots_9
section
def W_X7_loose (cI cS cII : ClassId) (DA : Nat → Nat) (D_length : Int32) (D_text : Nat → Int32) (D_levels : Int32) (D_readLevels : Int32) (D_readAsked : Int32) (D_asked : Nat → Int32) (D_readKinds : Nat → Int32) (D_now : Nat → Int32) (D_before : Nat → Int32) (D_undoMany : Int32) (D_kept : Nat → Int32) (D_keptMany : Int32) (D_refused : Int32) (D_roundMany : Int32) (D_roundOver : Int32) (D_round : Nat → Int32) (D_terms : Int32) (D_termLevel : Nat → Int32) (D_termAdd : Nat → Int32) (D_spot : Int32) (D_number : Nat → Int32) (D_reach : Nat → Int32) (D_edge : Nat → Int32) (D_by : Nat → Int32) : va_W := [((DA 0), .inr (7, [.int D_length, .ref (DA 1), .int D_levels, .int D_readLevels, .int D_readAsked, .ref (DA 2), .ref (DA 3), .ref (DA 4), .ref (DA 5), .int D_undoMany, .ref (DA 6), .int D_keptMany, .int D_refused, .int D_roundMany, .int D_roundOver, .ref (DA 7), .int D_terms, .ref (DA 8), .ref (DA 9), .int D_spot, .ref (DA 10), .ref (DA 11), .ref (DA 12), .ref (DA 13)])), ((DA 1), .inl (cI, 200, .inl D_text)), ((DA 2), .inl (cI, 160, .inl D_asked)), ((DA 3), .inl (cI, 10, .inl D_readKinds)), ((DA 4), .inl (cI, 59, .inl D_now)), ((DA 5), .inl (cI, 472, .inl D_before)), ((DA 6), .inl (cI, 118, .inl D_kept)), ((DA 7), .inl (cI, 12, .inl D_round)), ((DA 8), .inl (cI, 6, .inl D_termLevel)), ((DA 9), .inl (cI, 6, .inl D_termAdd)), ((DA 10), .inl (cI, 3, .inl D_number)), ((DA 11), .inl (cI, 100, .inl D_reach)), ((DA 12), .inl (cI, 100, .inl D_edge)), ((DA 13), .inl (cI, 110, .inl D_by))]
abbrev Rm_X7_loose : Room := { frames := 3, cells := 0, slots := 0, locals := 67 }
variable {l : Launch} {D : va_G} {cI cS cII : ClassId} {DA : Nat → Nat} {A : Nat → Prop} {J : jT}
variable {z_r : Int32} {z_D_reach : Nat → Int32} {z_D_edge : Nat → Int32}
def q_X7_loose_98 (D_levels : Int32) (D_now : Nat → Int32) (a1 : Int32) (a2 : Int32) (k43 : Int32 → Int32 → Int32 → (Nat → Int32) → (Nat → Int32) → Option (Int32 × (Nat → Int32) × (Nat → Int32))) (v5 : Int32) (v4 : Int32) (s0 : Int32) (D_reach : Nat → Int32) (D_edge : Nat → Int32) : Option (Int32 × (Nat → Int32) × (Nat → Int32)) := if v4 = 0 then ((p_X7_isRoot D_now D_reach v5 a1).bind fun r3 => if r3 = 0 then (k43 (v5 + 1) 0 s0 D_reach D_edge) else ((rd D_reach 100 ((10 * v5) + a1)).bind fun x5 => (rd D_reach 100 ((10 * a1) + v5)).bind fun x7 => if (x5 + x7) = 0 then (k43 (v5 + 1) 1 s0 D_reach D_edge) else (k43 (v5 + 1) 0 s0 D_reach D_edge))) else (k43 (v5 + 1) 1 s0 D_reach D_edge)
set_option maxRecDepth 100000 in
theorem w_X7_loose_98 {D_length : Int32} {D_text : Nat → Int32} {D_levels : Int32} {D_readLevels : Int32} {D_readAsked : Int32} {D_asked : Nat → Int32} {D_readKinds : Nat → Int32} {D_now : Nat → Int32} {D_before : Nat → Int32} {D_undoMany : Int32} {D_kept : Nat → Int32} {D_keptMany : Int32} {D_refused : Int32} {D_roundMany : Int32} {D_roundOver : Int32} {D_round : Nat → Int32} {D_terms : Int32} {D_termLevel : Nat → Int32} {D_termAdd : Nat → Int32} {D_spot : Int32} {D_number : Nat → Int32} {D_by : Nat → Int32} {a1 : Int32} {a2 : Int32} {k43 : Int32 → Int32 → Int32 → (Nat → Int32) → (Nat → Int32) → Option (Int32 × (Nat → Int32) × (Nat → Int32))} (hJ : jJ l cX7_loose 6 D (tysU cI cS cII) RX7 Rm_X7_loose (some .int) A (some z_r) (W_X7_loose cI cS cII DA D_length D_text D_levels D_readLevels D_readAsked D_asked D_readKinds D_now D_before D_undoMany D_kept D_keptMany D_refused D_roundMany D_roundOver D_round D_terms D_termLevel D_termAdd D_spot D_number z_D_reach z_D_edge D_by) J) (hk43 : ∀ (v5 : Int32) (v4 : Int32) (v3 : Int32) (D_reach : Nat → Int32) (D_edge : Nat → Int32), k43 v5 v4 v3 D_reach D_edge = some (z_r, z_D_reach, z_D_edge) → J (W_X7_loose cI cS cII DA D_length D_text D_levels D_readLevels D_readAsked D_asked D_readKinds D_now D_before D_undoMany D_kept D_keptMany D_refused D_roundMany D_roundOver D_round D_terms D_termLevel D_termAdd D_spot D_number D_reach D_edge D_by) 43 [(5, .int v5), (4, .int v4), (3, .int v3), (0, .ref (DA 0)), (1, .int a1), (2, .int a2)] []) : ∀ (v5 : Int32) (v4 : Int32) (s0 : Int32) (D_reach : Nat → Int32) (D_edge : Nat → Int32), q_X7_loose_98 D_levels D_now a1 a2 k43 v5 v4 s0 D_reach D_edge = some (z_r, z_D_reach, z_D_edge) → J (W_X7_loose cI cS cII DA D_length D_text D_levels D_readLevels D_readAsked D_asked D_readKinds D_now D_before D_undoMany D_kept D_keptMany D_refused D_roundMany D_roundOver D_round D_terms D_termLevel D_termAdd D_spot D_number D_reach D_edge D_by) 98 [(5, .int v5), (4, .int v4), (0, .ref (DA 0)), (1, .int a1), (2, .int a2)] [.int s0] := by
  intro v5 v4 s0 D_reach D_edge hF
  unfold q_X7_loose_98 at hF
  refine jj_istore_n hJ dX7_loose_98 rfl (Nat.le_of_ble_eq_true rfl) (lv' := [(3, .int s0), (5, .int v5), (4, .int v4), (0, .ref (DA 0)), (1, .int a1), (2, .int a2)]) rfl ?_
  refine jj_iload hJ dX7_loose_99 2 rfl ?_
  refine jj_if_ne hJ 142 dX7_loose_101 rfl (fun c1 => ?_) (fun c1 => ?_)
  · replace hF := iq c1 hF
    refine jj_iconst hJ dX7_loose_142 ic_1 ?_
    refine jj_goto hJ 147 dX7_loose_143 rfl ?_
    refine jj_istore hJ dX7_loose_147 (Nat.le_of_ble_eq_true rfl) (lv' := [(4, .int 1), (3, .int s0), (5, .int v5), (0, .ref (DA 0)), (1, .int a1), (2, .int a2)]) rfl ?_
    refine jj_iinc hJ dX7_loose_149 2 rfl (v := v5 + 1) (by rw [ic_1]) (Nat.le_of_ble_eq_true rfl) (lv' := [(5, .int (v5 + 1)), (4, .int 1), (3, .int s0), (0, .ref (DA 0)), (1, .int a1), (2, .int a2)]) rfl ?_
    refine jj_goto hJ 43 dX7_loose_152 rfl ?_
    exact hk43 (v5 + 1) 1 s0 D_reach D_edge hF
  · replace hF := ip c1 hF
    refine jj_aload_n hJ dX7_loose_104 3 rfl rfl ?_
    refine jj_iload hJ dX7_loose_105 1 rfl ?_
    refine jj_iload_n hJ dX7_loose_107 4 rfl rfl ?_
    obtain ⟨r3, h2, hF⟩ := ob hF
    refine jj_callV0 hJ (c_X7_isRoot l D cI cS cII DA D_length D_text D_levels D_readLevels D_readAsked D_asked D_readKinds D_now D_before D_undoMany D_kept D_keptMany D_refused D_roundMany D_roundOver D_round D_terms D_termLevel D_termAdd D_spot D_number D_reach D_edge D_by v5 a1 h2) dX7_loose_108 kw_280 ⟨Nat.le_of_ble_eq_true rfl, Nat.le_of_ble_eq_true rfl, rfl, rfl⟩ kw_279 kw_281 kw_282 0 rfl rfl rfl rfl (Nat.le_of_ble_eq_true rfl) [0, 1, 2, 3, 4, 5, 6, 7, 8, 9, 10, 11, 12, 13] rfl rfl ?_
    refine jj_if_eq hJ 146 dX7_loose_111 rfl (fun c4 => ?_) (fun c4 => ?_)
    · replace hF := ip c4 hF
      refine jj_iconst hJ dX7_loose_146 ic_0 ?_
      refine jj_istore hJ dX7_loose_147 (Nat.le_of_ble_eq_true rfl) (lv' := [(4, .int 0), (3, .int s0), (5, .int v5), (0, .ref (DA 0)), (1, .int a1), (2, .int a2)]) rfl ?_
      refine jj_iinc hJ dX7_loose_149 2 rfl (v := v5 + 1) (by rw [ic_1]) (Nat.le_of_ble_eq_true rfl) (lv' := [(5, .int (v5 + 1)), (4, .int 0), (3, .int s0), (0, .ref (DA 0)), (1, .int a1), (2, .int a2)]) rfl ?_
      refine jj_goto hJ 43 dX7_loose_152 rfl ?_
      exact hk43 (v5 + 1) 0 s0 D_reach D_edge hF
    · replace hF := iq c4 hF
      refine jj_aload_n hJ dX7_loose_114 3 rfl rfl ?_
      refine jj_get hJ lay_X7 dX7_loose_115 0 21 rfl rfl (Nat.le_of_ble_eq_true rfl) kw_185 rfl ?_
      refine jj_bipush hJ dX7_loose_118 bp_10 ?_
      refine jj_iload hJ dX7_loose_120 1 rfl ?_
      refine jj_imul hJ dX7_loose_122 ?_
      refine jj_iload_n hJ dX7_loose_123 4 rfl rfl ?_
      refine jj_iadd hJ dX7_loose_124 ?_
      obtain ⟨x5, h6, hF⟩ := ob hF
      refine jj_iald hJ dX7_loose_125 11 0 rfl rfl h6 ?_
      refine jj_aload_n hJ dX7_loose_126 3 rfl rfl ?_
      refine jj_get hJ lay_X7 dX7_loose_127 0 21 rfl rfl (Nat.le_of_ble_eq_true rfl) kw_185 rfl ?_
      refine jj_bipush hJ dX7_loose_130 bp_10 ?_
      refine jj_iload_n hJ dX7_loose_132 4 rfl rfl ?_
      refine jj_imul hJ dX7_loose_133 ?_
      refine jj_iload hJ dX7_loose_134 1 rfl ?_
      refine jj_iadd hJ dX7_loose_136 ?_
      obtain ⟨x7, h8, hF⟩ := ob hF
      refine jj_iald hJ dX7_loose_137 11 0 rfl rfl h8 ?_
      refine jj_iadd hJ dX7_loose_138 ?_
      refine jj_if_ne hJ 146 dX7_loose_139 rfl (fun c9 => ?_) (fun c9 => ?_)
      · replace hF := iq c9 hF
        refine jj_iconst hJ dX7_loose_146 ic_0 ?_
        refine jj_istore hJ dX7_loose_147 (Nat.le_of_ble_eq_true rfl) (lv' := [(4, .int 0), (3, .int s0), (5, .int v5), (0, .ref (DA 0)), (1, .int a1), (2, .int a2)]) rfl ?_
        refine jj_iinc hJ dX7_loose_149 2 rfl (v := v5 + 1) (by rw [ic_1]) (Nat.le_of_ble_eq_true rfl) (lv' := [(5, .int (v5 + 1)), (4, .int 0), (3, .int s0), (0, .ref (DA 0)), (1, .int a1), (2, .int a2)]) rfl ?_
        refine jj_goto hJ 43 dX7_loose_152 rfl ?_
        exact hk43 (v5 + 1) 0 s0 D_reach D_edge hF
      · replace hF := ip c9 hF
        refine jj_iconst hJ dX7_loose_142 ic_1 ?_
        refine jj_goto hJ 147 dX7_loose_143 rfl ?_
        refine jj_istore hJ dX7_loose_147 (Nat.le_of_ble_eq_true rfl) (lv' := [(4, .int 1), (3, .int s0), (5, .int v5), (0, .ref (DA 0)), (1, .int a1), (2, .int a2)]) rfl ?_
        refine jj_iinc hJ dX7_loose_149 2 rfl (v := v5 + 1) (by rw [ic_1]) (Nat.le_of_ble_eq_true rfl) (lv' := [(5, .int (v5 + 1)), (4, .int 1), (3, .int s0), (0, .ref (DA 0)), (1, .int a1), (2, .int a2)]) rfl ?_
        refine jj_goto hJ 43 dX7_loose_152 rfl ?_
        exact hk43 (v5 + 1) 1 s0 D_reach D_edge hF
def q_X7_loose_93 (D_levels : Int32) (D_now : Nat → Int32) (a1 : Int32) (a2 : Int32) (k43 : Int32 → Int32 → Int32 → (Nat → Int32) → (Nat → Int32) → Option (Int32 × (Nat → Int32) × (Nat → Int32))) (v5 : Int32) (v4 : Int32) (D_reach : Nat → Int32) (D_edge : Nat → Int32) : Option (Int32 × (Nat → Int32) × (Nat → Int32)) := q_X7_loose_98 D_levels D_now a1 a2 k43 v5 v4 1 D_reach D_edge
set_option maxRecDepth 100000 in
theorem w_X7_loose_93 {D_length : Int32} {D_text : Nat → Int32} {D_levels : Int32} {D_readLevels : Int32} {D_readAsked : Int32} {D_asked : Nat → Int32} {D_readKinds : Nat → Int32} {D_now : Nat → Int32} {D_before : Nat → Int32} {D_undoMany : Int32} {D_kept : Nat → Int32} {D_keptMany : Int32} {D_refused : Int32} {D_roundMany : Int32} {D_roundOver : Int32} {D_round : Nat → Int32} {D_terms : Int32} {D_termLevel : Nat → Int32} {D_termAdd : Nat → Int32} {D_spot : Int32} {D_number : Nat → Int32} {D_by : Nat → Int32} {a1 : Int32} {a2 : Int32} {k43 : Int32 → Int32 → Int32 → (Nat → Int32) → (Nat → Int32) → Option (Int32 × (Nat → Int32) × (Nat → Int32))} (hJ : jJ l cX7_loose 6 D (tysU cI cS cII) RX7 Rm_X7_loose (some .int) A (some z_r) (W_X7_loose cI cS cII DA D_length D_text D_levels D_readLevels D_readAsked D_asked D_readKinds D_now D_before D_undoMany D_kept D_keptMany D_refused D_roundMany D_roundOver D_round D_terms D_termLevel D_termAdd D_spot D_number z_D_reach z_D_edge D_by) J) (hk43 : ∀ (v5 : Int32) (v4 : Int32) (v3 : Int32) (D_reach : Nat → Int32) (D_edge : Nat → Int32), k43 v5 v4 v3 D_reach D_edge = some (z_r, z_D_reach, z_D_edge) → J (W_X7_loose cI cS cII DA D_length D_text D_levels D_readLevels D_readAsked D_asked D_readKinds D_now D_before D_undoMany D_kept D_keptMany D_refused D_roundMany D_roundOver D_round D_terms D_termLevel D_termAdd D_spot D_number D_reach D_edge D_by) 43 [(5, .int v5), (4, .int v4), (3, .int v3), (0, .ref (DA 0)), (1, .int a1), (2, .int a2)] []) : ∀ (v5 : Int32) (v4 : Int32) (D_reach : Nat → Int32) (D_edge : Nat → Int32), q_X7_loose_93 D_levels D_now a1 a2 k43 v5 v4 D_reach D_edge = some (z_r, z_D_reach, z_D_edge) → J (W_X7_loose cI cS cII DA D_length D_text D_levels D_readLevels D_readAsked D_asked D_readKinds D_now D_before D_undoMany D_kept D_keptMany D_refused D_roundMany D_roundOver D_round D_terms D_termLevel D_termAdd D_spot D_number D_reach D_edge D_by) 93 [(5, .int v5), (4, .int v4), (0, .ref (DA 0)), (1, .int a1), (2, .int a2)] [] := by
  intro v5 v4 D_reach D_edge hF
  unfold q_X7_loose_93 at hF
  refine jj_iconst hJ dX7_loose_93 ic_1 ?_
  refine jj_goto hJ 98 dX7_loose_94 rfl ?_
  exact w_X7_loose_98 hJ hk43 v5 v4 1 D_reach D_edge hF
def q_X7_loose_97 (D_levels : Int32) (D_now : Nat → Int32) (a1 : Int32) (a2 : Int32) (k43 : Int32 → Int32 → Int32 → (Nat → Int32) → (Nat → Int32) → Option (Int32 × (Nat → Int32) × (Nat → Int32))) (v5 : Int32) (v4 : Int32) (D_reach : Nat → Int32) (D_edge : Nat → Int32) : Option (Int32 × (Nat → Int32) × (Nat → Int32)) := q_X7_loose_98 D_levels D_now a1 a2 k43 v5 v4 0 D_reach D_edge
set_option maxRecDepth 100000 in
theorem w_X7_loose_97 {D_length : Int32} {D_text : Nat → Int32} {D_levels : Int32} {D_readLevels : Int32} {D_readAsked : Int32} {D_asked : Nat → Int32} {D_readKinds : Nat → Int32} {D_now : Nat → Int32} {D_before : Nat → Int32} {D_undoMany : Int32} {D_kept : Nat → Int32} {D_keptMany : Int32} {D_refused : Int32} {D_roundMany : Int32} {D_roundOver : Int32} {D_round : Nat → Int32} {D_terms : Int32} {D_termLevel : Nat → Int32} {D_termAdd : Nat → Int32} {D_spot : Int32} {D_number : Nat → Int32} {D_by : Nat → Int32} {a1 : Int32} {a2 : Int32} {k43 : Int32 → Int32 → Int32 → (Nat → Int32) → (Nat → Int32) → Option (Int32 × (Nat → Int32) × (Nat → Int32))} (hJ : jJ l cX7_loose 6 D (tysU cI cS cII) RX7 Rm_X7_loose (some .int) A (some z_r) (W_X7_loose cI cS cII DA D_length D_text D_levels D_readLevels D_readAsked D_asked D_readKinds D_now D_before D_undoMany D_kept D_keptMany D_refused D_roundMany D_roundOver D_round D_terms D_termLevel D_termAdd D_spot D_number z_D_reach z_D_edge D_by) J) (hk43 : ∀ (v5 : Int32) (v4 : Int32) (v3 : Int32) (D_reach : Nat → Int32) (D_edge : Nat → Int32), k43 v5 v4 v3 D_reach D_edge = some (z_r, z_D_reach, z_D_edge) → J (W_X7_loose cI cS cII DA D_length D_text D_levels D_readLevels D_readAsked D_asked D_readKinds D_now D_before D_undoMany D_kept D_keptMany D_refused D_roundMany D_roundOver D_round D_terms D_termLevel D_termAdd D_spot D_number D_reach D_edge D_by) 43 [(5, .int v5), (4, .int v4), (3, .int v3), (0, .ref (DA 0)), (1, .int a1), (2, .int a2)] []) : ∀ (v5 : Int32) (v4 : Int32) (D_reach : Nat → Int32) (D_edge : Nat → Int32), q_X7_loose_97 D_levels D_now a1 a2 k43 v5 v4 D_reach D_edge = some (z_r, z_D_reach, z_D_edge) → J (W_X7_loose cI cS cII DA D_length D_text D_levels D_readLevels D_readAsked D_asked D_readKinds D_now D_before D_undoMany D_kept D_keptMany D_refused D_roundMany D_roundOver D_round D_terms D_termLevel D_termAdd D_spot D_number D_reach D_edge D_by) 97 [(5, .int v5), (4, .int v4), (0, .ref (DA 0)), (1, .int a1), (2, .int a2)] [] := by
  intro v5 v4 D_reach D_edge hF
  unfold q_X7_loose_97 at hF
  refine jj_iconst hJ dX7_loose_97 ic_0 ?_
  exact w_X7_loose_98 hJ hk43 v5 v4 0 D_reach D_edge hF
def q_X7_loose_155 (D_levels : Int32) (D_now : Nat → Int32) (a1 : Int32) (a2 : Int32)  (v4 : Int32) (v3 : Int32) (D_reach : Nat → Int32) (D_edge : Nat → Int32) : Option (Int32 × (Nat → Int32) × (Nat → Int32)) := if a2 = 0 then (if v3 = 0 then (some (0, D_reach, D_edge)) else (some (1, D_reach, D_edge))) else (if v4 = 0 then (some (0, D_reach, D_edge)) else (some (1, D_reach, D_edge)))
set_option maxRecDepth 100000 in
theorem w_X7_loose_155 {D_length : Int32} {D_text : Nat → Int32} {D_levels : Int32} {D_readLevels : Int32} {D_readAsked : Int32} {D_asked : Nat → Int32} {D_readKinds : Nat → Int32} {D_now : Nat → Int32} {D_before : Nat → Int32} {D_undoMany : Int32} {D_kept : Nat → Int32} {D_keptMany : Int32} {D_refused : Int32} {D_roundMany : Int32} {D_roundOver : Int32} {D_round : Nat → Int32} {D_terms : Int32} {D_termLevel : Nat → Int32} {D_termAdd : Nat → Int32} {D_spot : Int32} {D_number : Nat → Int32} {D_by : Nat → Int32} {a1 : Int32} {a2 : Int32}  (hJ : jJ l cX7_loose 6 D (tysU cI cS cII) RX7 Rm_X7_loose (some .int) A (some z_r) (W_X7_loose cI cS cII DA D_length D_text D_levels D_readLevels D_readAsked D_asked D_readKinds D_now D_before D_undoMany D_kept D_keptMany D_refused D_roundMany D_roundOver D_round D_terms D_termLevel D_termAdd D_spot D_number z_D_reach z_D_edge D_by) J)  : ∀ (v4 : Int32) (v3 : Int32) (D_reach : Nat → Int32) (D_edge : Nat → Int32), q_X7_loose_155 D_levels D_now a1 a2 v4 v3 D_reach D_edge = some (z_r, z_D_reach, z_D_edge) → J (W_X7_loose cI cS cII DA D_length D_text D_levels D_readLevels D_readAsked D_asked D_readKinds D_now D_before D_undoMany D_kept D_keptMany D_refused D_roundMany D_roundOver D_round D_terms D_termLevel D_termAdd D_spot D_number D_reach D_edge D_by) 155 [(4, .int v4), (3, .int v3), (2, .int a2)] [] := by
  intro v4 v3 D_reach D_edge hF
  unfold q_X7_loose_155 at hF
  refine jj_iload_n hJ dX7_loose_155 2 rfl rfl ?_
  refine jj_if_ne hJ 171 dX7_loose_156 rfl (fun c1 => ?_) (fun c1 => ?_)
  · replace hF := iq c1 hF
    refine jj_iload hJ dX7_loose_171 0 rfl ?_
    refine jj_if_eq hJ 180 dX7_loose_173 rfl (fun c2 => ?_) (fun c2 => ?_)
    · replace hF := ip c2 hF
      refine jj_iconst hJ dX7_loose_180 ic_0 ?_
      cases Option.some.inj hF
      exact jj_iret hJ dX7_loose_181
    · replace hF := iq c2 hF
      refine jj_iconst hJ dX7_loose_176 ic_1 ?_
      refine jj_goto hJ 181 dX7_loose_177 rfl ?_
      cases Option.some.inj hF
      exact jj_iret hJ dX7_loose_181
  · replace hF := ip c1 hF
    refine jj_iload_n hJ dX7_loose_159 1 rfl rfl ?_
    refine jj_if_eq hJ 167 dX7_loose_160 rfl (fun c3 => ?_) (fun c3 => ?_)
    · replace hF := ip c3 hF
      refine jj_iconst hJ dX7_loose_167 ic_0 ?_
      refine jj_goto hJ 181 dX7_loose_168 rfl ?_
      cases Option.some.inj hF
      exact jj_iret hJ dX7_loose_181
    · replace hF := iq c3 hF
      refine jj_iconst hJ dX7_loose_163 ic_1 ?_
      refine jj_goto hJ 181 dX7_loose_164 rfl ?_
      cases Option.some.inj hF
      exact jj_iret hJ dX7_loose_181
def q_X7_loose_43 (D_levels : Int32) (D_now : Nat → Int32) (a1 : Int32) (a2 : Int32)  : Nat → Int32 → Int32 → Int32 → (Nat → Int32) → (Nat → Int32) → Option (Int32 × (Nat → Int32) × (Nat → Int32))
  | 0, _, _, _, _, _ => none
  | n + 1, v5, v4, v3, D_reach, D_edge => if D_levels ≤ v5 then (q_X7_loose_155 D_levels D_now a1 a2 v4 v3 D_reach D_edge) else (if v3 = 0 then (q_X7_loose_97 D_levels D_now a1 a2 (q_X7_loose_43 D_levels D_now a1 a2 n) v5 v4 D_reach D_edge) else ((p_X7_isRoot D_now D_reach v5 a1).bind fun r4 => if r4 = 0 then ((p_X7_isFloating D_now v5).bind fun r7 => if r7 = 0 then ((rd D_reach 100 ((10 * a1) + v5)).bind fun x9 => (p_X7_isWay x9).bind fun r12 => if r12 = 0 then (q_X7_loose_93 D_levels D_now a1 a2 (q_X7_loose_43 D_levels D_now a1 a2 n) v5 v4 D_reach D_edge) else (q_X7_loose_97 D_levels D_now a1 a2 (q_X7_loose_43 D_levels D_now a1 a2 n) v5 v4 D_reach D_edge)) else (q_X7_loose_93 D_levels D_now a1 a2 (q_X7_loose_43 D_levels D_now a1 a2 n) v5 v4 D_reach D_edge)) else (q_X7_loose_97 D_levels D_now a1 a2 (q_X7_loose_43 D_levels D_now a1 a2 n) v5 v4 D_reach D_edge)))
set_option maxRecDepth 100000 in
theorem w_X7_loose_43 {D_length : Int32} {D_text : Nat → Int32} {D_levels : Int32} {D_readLevels : Int32} {D_readAsked : Int32} {D_asked : Nat → Int32} {D_readKinds : Nat → Int32} {D_now : Nat → Int32} {D_before : Nat → Int32} {D_undoMany : Int32} {D_kept : Nat → Int32} {D_keptMany : Int32} {D_refused : Int32} {D_roundMany : Int32} {D_roundOver : Int32} {D_round : Nat → Int32} {D_terms : Int32} {D_termLevel : Nat → Int32} {D_termAdd : Nat → Int32} {D_spot : Int32} {D_number : Nat → Int32} {D_by : Nat → Int32} {a1 : Int32} {a2 : Int32}  (hJ : jJ l cX7_loose 6 D (tysU cI cS cII) RX7 Rm_X7_loose (some .int) A (some z_r) (W_X7_loose cI cS cII DA D_length D_text D_levels D_readLevels D_readAsked D_asked D_readKinds D_now D_before D_undoMany D_kept D_keptMany D_refused D_roundMany D_roundOver D_round D_terms D_termLevel D_termAdd D_spot D_number z_D_reach z_D_edge D_by) J)  : ∀ (n : Nat) (v5 : Int32) (v4 : Int32) (v3 : Int32) (D_reach : Nat → Int32) (D_edge : Nat → Int32), q_X7_loose_43 D_levels D_now a1 a2 n v5 v4 v3 D_reach D_edge = some (z_r, z_D_reach, z_D_edge) → J (W_X7_loose cI cS cII DA D_length D_text D_levels D_readLevels D_readAsked D_asked D_readKinds D_now D_before D_undoMany D_kept D_keptMany D_refused D_roundMany D_roundOver D_round D_terms D_termLevel D_termAdd D_spot D_number D_reach D_edge D_by) 43 [(5, .int v5), (4, .int v4), (3, .int v3), (0, .ref (DA 0)), (1, .int a1), (2, .int a2)] [] := by
  intro n
  induction n with
  | zero =>
    intro v5 v4 v3 D_reach D_edge hF
    exact no_some (show (none : Option (Int32 × (Nat → Int32) × (Nat → Int32))) = some (z_r, z_D_reach, z_D_edge) from hF)
  | succ n ih =>
    intro v5 v4 v3 D_reach D_edge hF
    rw [q_X7_loose_43.eq_2] at hF
    refine jj_iload hJ dX7_loose_43 0 rfl ?_
    refine jj_aload_n hJ dX7_loose_45 3 rfl rfl ?_
    refine jj_get hJ lay_X7 dX7_loose_46 0 2 rfl rfl (Nat.le_of_ble_eq_true rfl) kw_186 rfl ?_
    refine jj_icmp_ge hJ 155 dX7_loose_49 rfl (fun c1 => ?_) (fun c1 => ?_)
    · replace hF := ip c1 hF
      refine jj_lv hJ [1, 2, 5] (lv' := [(4, .int v4), (3, .int v3), (2, .int a2)]) rfl ?_
      exact w_X7_loose_155 hJ  v4 v3 D_reach D_edge hF
    · replace hF := iq c1 hF
      refine jj_iload_n hJ dX7_loose_52 2 rfl rfl ?_
      refine jj_if_eq hJ 97 dX7_loose_53 rfl (fun c2 => ?_) (fun c2 => ?_)
      · replace hF := ip c2 hF
        refine jj_lv hJ [0, 1, 3, 4, 5] (lv' := [(5, .int v5), (4, .int v4), (0, .ref (DA 0)), (1, .int a1), (2, .int a2)]) rfl ?_
        exact w_X7_loose_97 hJ (fun v5 v4 v3 D_reach D_edge => ih v5 v4 v3 D_reach D_edge) v5 v4 D_reach D_edge hF
      · replace hF := iq c2 hF
        refine jj_aload_n hJ dX7_loose_56 3 rfl rfl ?_
        refine jj_iload hJ dX7_loose_57 0 rfl ?_
        refine jj_iload_n hJ dX7_loose_59 4 rfl rfl ?_
        obtain ⟨r4, h3, hF⟩ := ob hF
        refine jj_callV0 hJ (c_X7_isRoot l D cI cS cII DA D_length D_text D_levels D_readLevels D_readAsked D_asked D_readKinds D_now D_before D_undoMany D_kept D_keptMany D_refused D_roundMany D_roundOver D_round D_terms D_termLevel D_termAdd D_spot D_number D_reach D_edge D_by v5 a1 h3) dX7_loose_60 kw_280 ⟨Nat.le_of_ble_eq_true rfl, Nat.le_of_ble_eq_true rfl, rfl, rfl⟩ kw_279 kw_281 kw_282 0 rfl rfl rfl rfl (Nat.le_of_ble_eq_true rfl) [0, 1, 2, 3, 4, 5, 6, 7, 8, 9, 10, 11, 12, 13] rfl rfl ?_
        refine jj_if_ne hJ 97 dX7_loose_63 rfl (fun c5 => ?_) (fun c5 => ?_)
        · replace hF := iq c5 hF
          refine jj_lv hJ [0, 1, 3, 4, 5] (lv' := [(5, .int v5), (4, .int v4), (0, .ref (DA 0)), (1, .int a1), (2, .int a2)]) rfl ?_
          exact w_X7_loose_97 hJ (fun v5 v4 v3 D_reach D_edge => ih v5 v4 v3 D_reach D_edge) v5 v4 D_reach D_edge hF
        · replace hF := ip c5 hF
          refine jj_aload_n hJ dX7_loose_66 3 rfl rfl ?_
          refine jj_iload hJ dX7_loose_67 0 rfl ?_
          obtain ⟨r7, h6, hF⟩ := ob hF
          refine jj_callV0 hJ (c_X7_isFloating l D cI cS cII DA D_length D_text D_levels D_readLevels D_readAsked D_asked D_readKinds D_now D_before D_undoMany D_kept D_keptMany D_refused D_roundMany D_roundOver D_round D_terms D_termLevel D_termAdd D_spot D_number D_reach D_edge D_by v5 h6) dX7_loose_69 kw_241 ⟨Nat.le_of_ble_eq_true rfl, Nat.le_of_ble_eq_true rfl, rfl, rfl⟩ kw_240 kw_242 kw_243 0 rfl rfl rfl rfl (Nat.le_of_ble_eq_true rfl) [0, 1, 2, 3, 4, 5, 6, 7, 8, 9, 10, 11, 12, 13] rfl rfl ?_
          refine jj_if_ne hJ 93 dX7_loose_72 rfl (fun c8 => ?_) (fun c8 => ?_)
          · replace hF := iq c8 hF
            refine jj_lv hJ [0, 1, 3, 4, 5] (lv' := [(5, .int v5), (4, .int v4), (0, .ref (DA 0)), (1, .int a1), (2, .int a2)]) rfl ?_
            exact w_X7_loose_93 hJ (fun v5 v4 v3 D_reach D_edge => ih v5 v4 v3 D_reach D_edge) v5 v4 D_reach D_edge hF
          · replace hF := ip c8 hF
            refine jj_aload_n hJ dX7_loose_75 3 rfl rfl ?_
            refine jj_get hJ lay_X7 dX7_loose_76 0 21 rfl rfl (Nat.le_of_ble_eq_true rfl) kw_185 rfl ?_
            refine jj_bipush hJ dX7_loose_79 bp_10 ?_
            refine jj_iload_n hJ dX7_loose_81 4 rfl rfl ?_
            refine jj_imul hJ dX7_loose_82 ?_
            refine jj_iload hJ dX7_loose_83 0 rfl ?_
            refine jj_iadd hJ dX7_loose_85 ?_
            obtain ⟨x9, h10, hF⟩ := ob hF
            refine jj_iald hJ dX7_loose_86 11 0 rfl rfl h10 ?_
            obtain ⟨r12, h11, hF⟩ := ob hF
            refine jj_callS0 hJ (c_X7_isWay l D cI cS cII   x9 h11) dX7_loose_87 kw_187 ⟨Nat.le_of_ble_eq_true rfl, Nat.le_of_ble_eq_true rfl, rfl, rfl⟩ kw_188 kw_189 rfl rfl (Nat.le_of_ble_eq_true rfl) [] rfl rfl ?_
            refine jj_if_ne hJ 97 dX7_loose_90 rfl (fun c13 => ?_) (fun c13 => ?_)
            · replace hF := iq c13 hF
              refine jj_lv hJ [0, 1, 3, 4, 5] (lv' := [(5, .int v5), (4, .int v4), (0, .ref (DA 0)), (1, .int a1), (2, .int a2)]) rfl ?_
              exact w_X7_loose_97 hJ (fun v5 v4 v3 D_reach D_edge => ih v5 v4 v3 D_reach D_edge) v5 v4 D_reach D_edge hF
            · replace hF := ip c13 hF
              refine jj_lv hJ [0, 1, 3, 4, 5] (lv' := [(5, .int v5), (4, .int v4), (0, .ref (DA 0)), (1, .int a1), (2, .int a2)]) rfl ?_
              exact w_X7_loose_93 hJ (fun v5 v4 v3 D_reach D_edge => ih v5 v4 v3 D_reach D_edge) v5 v4 D_reach D_edge hF
def p_X7_loose (D_levels : Int32) (D_now : Nat → Int32) (D_reach : Nat → Int32) (D_edge : Nat → Int32) (a1 : Int32) (a2 : Int32) : Option (Int32 × (Nat → Int32) × (Nat → Int32)) := (p_X7_isLevel D_levels a1).bind fun r2 => if r2 = 0 then (some ((-1), D_reach, D_edge)) else ((p_X7_in ((a2 : Int32).toInt64) 0 1).bind fun r5 => if r5 = 0 then (some ((-1), D_reach, D_edge)) else ((p_X7_isFloating D_now a1).bind fun r8 => if r8 = 0 then (some ((-2), D_reach, D_edge)) else ((p_X7_find D_levels D_now D_reach D_edge).bind fun (g11, g12) => q_X7_loose_43 D_levels D_now a1 a2 FU 0 0 1 g11 g12)))
end
set_option maxRecDepth 100000 in
theorem c_X7_loose (l : Launch) (D : va_G) (cI cS cII : ClassId) (DA : Nat → Nat) (D_length : Int32) (D_text : Nat → Int32) (D_levels : Int32) (D_readLevels : Int32) (D_readAsked : Int32) (D_asked : Nat → Int32) (D_readKinds : Nat → Int32) (D_now : Nat → Int32) (D_before : Nat → Int32) (D_undoMany : Int32) (D_kept : Nat → Int32) (D_keptMany : Int32) (D_refused : Int32) (D_roundMany : Int32) (D_roundOver : Int32) (D_round : Nat → Int32) (D_terms : Int32) (D_termLevel : Nat → Int32) (D_termAdd : Nat → Int32) (D_spot : Int32) (D_number : Nat → Int32) (D_reach : Nat → Int32) (D_edge : Nat → Int32) (D_by : Nat → Int32) (a1 : Int32) (a2 : Int32) {z_r : Int32} {z_D_reach : Nat → Int32} {z_D_edge : Nat → Int32} (hF : p_X7_loose D_levels D_now D_reach D_edge a1 a2 = some (z_r, z_D_reach, z_D_edge)) : MJ l yX7_loose cX7_loose 6 (some .int) Rm_X7_loose D (tysU cI cS cII) [.ref (DA 0), .int a1, .int a2] (W_X7_loose cI cS cII DA D_length D_text D_levels D_readLevels D_readAsked D_asked D_readKinds D_now D_before D_undoMany D_kept D_keptMany D_refused D_roundMany D_roundOver D_round D_terms D_termLevel D_termAdd D_spot D_number D_reach D_edge D_by) (some z_r) (W_X7_loose cI cS cII DA D_length D_text D_levels D_readLevels D_readAsked D_asked D_readKinds D_now D_before D_undoMany D_kept D_keptMany D_refused D_roundMany D_roundOver D_round D_terms D_termLevel D_termAdd D_spot D_number z_D_reach z_D_edge D_by) := by
  refine mj_of (own := RX7) (by decide) rfl (Nat.le_of_ble_eq_true rfl) (fun J hJ => ?_)
  show J (W_X7_loose cI cS cII DA D_length D_text D_levels D_readLevels D_readAsked D_asked D_readKinds D_now D_before D_undoMany D_kept D_keptMany D_refused D_roundMany D_roundOver D_round D_terms D_termLevel D_termAdd D_spot D_number D_reach D_edge D_by) 0 [(0, .ref (DA 0)), (1, .int a1), (2, .int a2)] []
  unfold p_X7_loose at hF
  refine jj_aload_n hJ dX7_loose_0 0 rfl rfl ?_
  refine jj_iload_n hJ dX7_loose_1 1 rfl rfl ?_
  obtain ⟨r2, h1, hF⟩ := ob hF
  refine jj_callV0 hJ (c_X7_isLevel l D cI cS cII DA D_length D_text D_levels D_readLevels D_readAsked D_asked D_readKinds D_now D_before D_undoMany D_kept D_keptMany D_refused D_roundMany D_roundOver D_round D_terms D_termLevel D_termAdd D_spot D_number D_reach D_edge D_by a1 h1) dX7_loose_2 kw_232 ⟨Nat.le_of_ble_eq_true rfl, Nat.le_of_ble_eq_true rfl, rfl, rfl⟩ kw_231 kw_233 kw_234 0 rfl rfl rfl rfl (Nat.le_of_ble_eq_true rfl) [0, 1, 2, 3, 4, 5, 6, 7, 8, 9, 10, 11, 12, 13] rfl rfl ?_
  refine jj_if_eq hJ 18 dX7_loose_5 rfl (fun c3 => ?_) (fun c3 => ?_)
  · replace hF := ip c3 hF
    refine jj_iconst hJ dX7_loose_18 ic_m1 ?_
    cases Option.some.inj hF
    exact jj_iret hJ dX7_loose_19
  · replace hF := iq c3 hF
    refine jj_iload_n hJ dX7_loose_8 2 rfl rfl ?_
    refine jj_i2l hJ dX7_loose_9 ?_
    refine jj_lconst hJ dX7_loose_10 lc_0 ?_
    refine jj_lconst hJ dX7_loose_11 lc_1 ?_
    obtain ⟨r5, h4, hF⟩ := ob hF
    refine jj_callS0 hJ (c_X7_in l D cI cS cII   ((a2 : Int32).toInt64) 0 1 h4) dX7_loose_12 kw_140 ⟨Nat.le_of_ble_eq_true rfl, Nat.le_of_ble_eq_true rfl, rfl, rfl⟩ kw_141 kw_142 rfl rfl (Nat.le_of_ble_eq_true rfl) [] rfl rfl ?_
    refine jj_if_ne hJ 20 dX7_loose_15 rfl (fun c6 => ?_) (fun c6 => ?_)
    · replace hF := iq c6 hF
      refine jj_aload_n hJ dX7_loose_20 0 rfl rfl ?_
      refine jj_iload_n hJ dX7_loose_21 1 rfl rfl ?_
      obtain ⟨r8, h7, hF⟩ := ob hF
      refine jj_callV0 hJ (c_X7_isFloating l D cI cS cII DA D_length D_text D_levels D_readLevels D_readAsked D_asked D_readKinds D_now D_before D_undoMany D_kept D_keptMany D_refused D_roundMany D_roundOver D_round D_terms D_termLevel D_termAdd D_spot D_number D_reach D_edge D_by a1 h7) dX7_loose_22 kw_241 ⟨Nat.le_of_ble_eq_true rfl, Nat.le_of_ble_eq_true rfl, rfl, rfl⟩ kw_240 kw_242 kw_243 0 rfl rfl rfl rfl (Nat.le_of_ble_eq_true rfl) [0, 1, 2, 3, 4, 5, 6, 7, 8, 9, 10, 11, 12, 13] rfl rfl ?_
      refine jj_if_ne hJ 31 dX7_loose_25 rfl (fun c9 => ?_) (fun c9 => ?_)
      · replace hF := iq c9 hF
        refine jj_aload_n hJ dX7_loose_31 0 rfl rfl ?_
        obtain ⟨⟨g11, g12⟩, h10, hF⟩ := ob hF
        refine jj_callV hJ (c_X7_find l D cI cS cII DA D_length D_text D_levels D_readLevels D_readAsked D_asked D_readKinds D_now D_before D_undoMany D_kept D_keptMany D_refused D_roundMany D_roundOver D_round D_terms D_termLevel D_termAdd D_spot D_number D_reach D_edge D_by  h10) dX7_loose_32 kw_203 ⟨Nat.le_of_ble_eq_true rfl, Nat.le_of_ble_eq_true rfl, rfl, rfl⟩ kw_202 kw_204 kw_205 0 rfl rfl rfl rfl (Nat.le_of_ble_eq_true rfl) [0, 1, 2, 3, 4, 5, 6, 7, 8, 9, 10, 11, 12, 13] rfl rfl (wn := (W_X7_loose cI cS cII DA D_length D_text D_levels D_readLevels D_readAsked D_asked D_readKinds D_now D_before D_undoMany D_kept D_keptMany D_refused D_roundMany D_roundOver D_round D_terms D_termLevel D_termAdd D_spot D_number g11 g12 D_by)) (jNew_sel rfl [some 0, some 1, some 2, some 3, some 4, some 5, some 6, some 7, some 8, some 9, some 10, some 11, some 12, some 13] (by decide +kernel) rfl) ?_
        refine jj_iconst hJ dX7_loose_35 ic_1 ?_
        refine jj_istore_n hJ dX7_loose_36 rfl (Nat.le_of_ble_eq_true rfl) (lv' := [(3, .int 1), (0, .ref (DA 0)), (1, .int a1), (2, .int a2)]) rfl ?_
        refine jj_iconst hJ dX7_loose_37 ic_0 ?_
        refine jj_istore hJ dX7_loose_38 (Nat.le_of_ble_eq_true rfl) (lv' := [(4, .int 0), (3, .int 1), (0, .ref (DA 0)), (1, .int a1), (2, .int a2)]) rfl ?_
        refine jj_iconst hJ dX7_loose_40 ic_0 ?_
        refine jj_istore hJ dX7_loose_41 (Nat.le_of_ble_eq_true rfl) (lv' := [(5, .int 0), (4, .int 0), (3, .int 1), (0, .ref (DA 0)), (1, .int a1), (2, .int a2)]) rfl ?_
        exact w_X7_loose_43 hJ  FU 0 0 1 g11 g12 hF
      · replace hF := ip c9 hF
        refine jj_bipush hJ dX7_loose_28 bp_m2 ?_
        cases Option.some.inj hF
        exact jj_iret hJ dX7_loose_30
    · replace hF := ip c6 hF
      refine jj_iconst hJ dX7_loose_18 ic_m1 ?_
      cases Option.some.inj hF
      exact jj_iret hJ dX7_loose_19
section
def W_X7_keep (cI cS cII : ClassId) (DA : Nat → Nat) (D_length : Int32) (D_text : Nat → Int32) (D_levels : Int32) (D_readLevels : Int32) (D_readAsked : Int32) (D_asked : Nat → Int32) (D_readKinds : Nat → Int32) (D_now : Nat → Int32) (D_before : Nat → Int32) (D_undoMany : Int32) (D_kept : Nat → Int32) (D_keptMany : Int32) (D_refused : Int32) (D_roundMany : Int32) (D_roundOver : Int32) (D_round : Nat → Int32) (D_terms : Int32) (D_termLevel : Nat → Int32) (D_termAdd : Nat → Int32) (D_spot : Int32) (D_number : Nat → Int32) (D_reach : Nat → Int32) (D_edge : Nat → Int32) (D_by : Nat → Int32) : va_W := [((DA 0), .inr (7, [.int D_length, .ref (DA 1), .int D_levels, .int D_readLevels, .int D_readAsked, .ref (DA 2), .ref (DA 3), .ref (DA 4), .ref (DA 5), .int D_undoMany, .ref (DA 6), .int D_keptMany, .int D_refused, .int D_roundMany, .int D_roundOver, .ref (DA 7), .int D_terms, .ref (DA 8), .ref (DA 9), .int D_spot, .ref (DA 10), .ref (DA 11), .ref (DA 12), .ref (DA 13)])), ((DA 1), .inl (cI, 200, .inl D_text)), ((DA 2), .inl (cI, 160, .inl D_asked)), ((DA 3), .inl (cI, 10, .inl D_readKinds)), ((DA 4), .inl (cI, 59, .inl D_now)), ((DA 5), .inl (cI, 472, .inl D_before)), ((DA 6), .inl (cI, 118, .inl D_kept)), ((DA 7), .inl (cI, 12, .inl D_round)), ((DA 8), .inl (cI, 6, .inl D_termLevel)), ((DA 9), .inl (cI, 6, .inl D_termAdd)), ((DA 10), .inl (cI, 3, .inl D_number)), ((DA 11), .inl (cI, 100, .inl D_reach)), ((DA 12), .inl (cI, 100, .inl D_edge)), ((DA 13), .inl (cI, 110, .inl D_by))]
abbrev Rm_X7_keep : Room := { frames := 0, cells := 0, slots := 0, locals := 0 }
variable {l : Launch} {D : va_G} {cI cS cII : ClassId} {DA : Nat → Nat} {A : Nat → Prop} {J : jT}
variable {z_r : Int32} {z_D_kept : Nat → Int32} {z_D_keptMany : Int32}
def q_X7_keep_45 (D_now : Nat → Int32)  (D_kept : Nat → Int32) (D_keptMany : Int32) : Option (Int32 × (Nat → Int32) × Int32) := some (D_keptMany + 1, D_kept, D_keptMany + 1)
set_option maxRecDepth 100000 in
theorem w_X7_keep_45 {D_length : Int32} {D_text : Nat → Int32} {D_levels : Int32} {D_readLevels : Int32} {D_readAsked : Int32} {D_asked : Nat → Int32} {D_readKinds : Nat → Int32} {D_now : Nat → Int32} {D_before : Nat → Int32} {D_undoMany : Int32} {D_refused : Int32} {D_roundMany : Int32} {D_roundOver : Int32} {D_round : Nat → Int32} {D_terms : Int32} {D_termLevel : Nat → Int32} {D_termAdd : Nat → Int32} {D_spot : Int32} {D_number : Nat → Int32} {D_reach : Nat → Int32} {D_edge : Nat → Int32} {D_by : Nat → Int32}   (hJ : jJ l cX7_keep 2 D (tysU cI cS cII) RX7 Rm_X7_keep (some .int) A (some z_r) (W_X7_keep cI cS cII DA D_length D_text D_levels D_readLevels D_readAsked D_asked D_readKinds D_now D_before D_undoMany z_D_kept z_D_keptMany D_refused D_roundMany D_roundOver D_round D_terms D_termLevel D_termAdd D_spot D_number D_reach D_edge D_by) J)  : ∀ (D_kept : Nat → Int32) (D_keptMany : Int32), q_X7_keep_45 D_now D_kept D_keptMany = some (z_r, z_D_kept, z_D_keptMany) → J (W_X7_keep cI cS cII DA D_length D_text D_levels D_readLevels D_readAsked D_asked D_readKinds D_now D_before D_undoMany D_kept D_keptMany D_refused D_roundMany D_roundOver D_round D_terms D_termLevel D_termAdd D_spot D_number D_reach D_edge D_by) 45 [(0, .ref (DA 0))] [] := by
  intro D_kept D_keptMany hF
  unfold q_X7_keep_45 at hF
  refine jj_aload_n hJ dX7_keep_45 0 rfl rfl ?_
  refine jj_dup hJ dX7_keep_46 rfl ?_
  refine jj_get hJ lay_X7 dX7_keep_47 0 11 rfl rfl (Nat.le_of_ble_eq_true rfl) kw_224 rfl ?_
  refine jj_iconst hJ dX7_keep_50 ic_1 ?_
  refine jj_iadd hJ dX7_keep_51 ?_
  refine jj_puti hJ lay_X7 tyX7 tyX7_ok nmX7 dX7_keep_52 0 11 rfl rfl (Nat.le_of_ble_eq_true rfl) kw_224 rfl rfl (Nat.le_of_ble_eq_true rfl) (wn := (W_X7_keep cI cS cII DA D_length D_text D_levels D_readLevels D_readAsked D_asked D_readKinds D_now D_before D_undoMany D_kept (D_keptMany + 1) D_refused D_roundMany D_roundOver D_round D_terms D_termLevel D_termAdd D_spot D_number D_reach D_edge D_by)) rfl ?_
  refine jj_aload_n hJ dX7_keep_55 0 rfl rfl ?_
  refine jj_get hJ lay_X7 dX7_keep_56 0 11 rfl rfl (Nat.le_of_ble_eq_true rfl) kw_224 rfl ?_
  cases Option.some.inj hF
  exact jj_iret hJ dX7_keep_59
def q_X7_keep_13 (D_now : Nat → Int32)  : Nat → Int32 → (Nat → Int32) → Int32 → Option (Int32 × (Nat → Int32) × Int32)
  | 0, _, _, _ => none
  | n + 1, v1, D_kept, D_keptMany => if 59 ≤ v1 then (q_X7_keep_45 D_now D_kept D_keptMany) else ((rd D_now 59 v1).bind fun x2 => (wr D_kept 118 ((59 * D_keptMany) + v1) x2).bind fun g4 => q_X7_keep_13 D_now n (v1 + 1) g4 D_keptMany)
set_option maxRecDepth 100000 in
theorem w_X7_keep_13 {D_length : Int32} {D_text : Nat → Int32} {D_levels : Int32} {D_readLevels : Int32} {D_readAsked : Int32} {D_asked : Nat → Int32} {D_readKinds : Nat → Int32} {D_now : Nat → Int32} {D_before : Nat → Int32} {D_undoMany : Int32} {D_refused : Int32} {D_roundMany : Int32} {D_roundOver : Int32} {D_round : Nat → Int32} {D_terms : Int32} {D_termLevel : Nat → Int32} {D_termAdd : Nat → Int32} {D_spot : Int32} {D_number : Nat → Int32} {D_reach : Nat → Int32} {D_edge : Nat → Int32} {D_by : Nat → Int32}   (hJ : jJ l cX7_keep 2 D (tysU cI cS cII) RX7 Rm_X7_keep (some .int) A (some z_r) (W_X7_keep cI cS cII DA D_length D_text D_levels D_readLevels D_readAsked D_asked D_readKinds D_now D_before D_undoMany z_D_kept z_D_keptMany D_refused D_roundMany D_roundOver D_round D_terms D_termLevel D_termAdd D_spot D_number D_reach D_edge D_by) J)  : ∀ (n : Nat) (v1 : Int32) (D_kept : Nat → Int32) (D_keptMany : Int32), q_X7_keep_13 D_now n v1 D_kept D_keptMany = some (z_r, z_D_kept, z_D_keptMany) → J (W_X7_keep cI cS cII DA D_length D_text D_levels D_readLevels D_readAsked D_asked D_readKinds D_now D_before D_undoMany D_kept D_keptMany D_refused D_roundMany D_roundOver D_round D_terms D_termLevel D_termAdd D_spot D_number D_reach D_edge D_by) 13 [(1, .int v1), (0, .ref (DA 0))] [] := by
  intro n
  induction n with
  | zero =>
    intro v1 D_kept D_keptMany hF
    exact no_some (show (none : Option (Int32 × (Nat → Int32) × Int32)) = some (z_r, z_D_kept, z_D_keptMany) from hF)
  | succ n ih =>
    intro v1 D_kept D_keptMany hF
    rw [q_X7_keep_13.eq_2] at hF
    refine jj_iload_n hJ dX7_keep_13 0 rfl rfl ?_
    refine jj_bipush hJ dX7_keep_14 bp_59 ?_
    refine jj_icmp_ge hJ 45 dX7_keep_16 rfl (fun c1 => ?_) (fun c1 => ?_)
    · replace hF := ip c1 hF
      refine jj_lv hJ [1] (lv' := [(0, .ref (DA 0))]) rfl ?_
      exact w_X7_keep_45 hJ  D_kept D_keptMany hF
    · replace hF := iq c1 hF
      refine jj_aload_n hJ dX7_keep_19 1 rfl rfl ?_
      refine jj_get hJ lay_X7 dX7_keep_20 0 10 rfl rfl (Nat.le_of_ble_eq_true rfl) kw_283 rfl ?_
      refine jj_bipush hJ dX7_keep_23 bp_59 ?_
      refine jj_aload_n hJ dX7_keep_25 1 rfl rfl ?_
      refine jj_get hJ lay_X7 dX7_keep_26 0 11 rfl rfl (Nat.le_of_ble_eq_true rfl) kw_224 rfl ?_
      refine jj_imul hJ dX7_keep_29 ?_
      refine jj_iload_n hJ dX7_keep_30 0 rfl rfl ?_
      refine jj_iadd hJ dX7_keep_31 ?_
      refine jj_aload_n hJ dX7_keep_32 1 rfl rfl ?_
      refine jj_get hJ lay_X7 dX7_keep_33 0 7 rfl rfl (Nat.le_of_ble_eq_true rfl) kw_178 rfl ?_
      refine jj_iload_n hJ dX7_keep_36 0 rfl rfl ?_
      obtain ⟨x2, h3, hF⟩ := ob hF
      refine jj_iald hJ dX7_keep_37 4 0 rfl rfl h3 ?_
      obtain ⟨g4, h5, hF⟩ := ob hF
      refine jj_iast hJ dX7_keep_38 6 0 rfl rfl h5 (wn := (W_X7_keep cI cS cII DA D_length D_text D_levels D_readLevels D_readAsked D_asked D_readKinds D_now D_before D_undoMany g4 D_keptMany D_refused D_roundMany D_roundOver D_round D_terms D_termLevel D_termAdd D_spot D_number D_reach D_edge D_by)) rfl ?_
      refine jj_iinc hJ dX7_keep_39 0 rfl (v := v1 + 1) (by rw [ic_1]) (Nat.le_of_ble_eq_true rfl) (lv' := [(1, .int (v1 + 1)), (0, .ref (DA 0))]) rfl ?_
      refine jj_goto hJ 13 dX7_keep_42 rfl ?_
      exact ih (v1 + 1) g4 D_keptMany hF
def p_X7_keep (D_now : Nat → Int32) (D_kept : Nat → Int32) (D_keptMany : Int32) : Option (Int32 × (Nat → Int32) × Int32) := if D_keptMany = 2 then (some ((-3), D_kept, D_keptMany)) else (q_X7_keep_13 D_now FU 0 D_kept D_keptMany)
end
set_option maxRecDepth 100000 in
theorem c_X7_keep (l : Launch) (D : va_G) (cI cS cII : ClassId) (DA : Nat → Nat) (D_length : Int32) (D_text : Nat → Int32) (D_levels : Int32) (D_readLevels : Int32) (D_readAsked : Int32) (D_asked : Nat → Int32) (D_readKinds : Nat → Int32) (D_now : Nat → Int32) (D_before : Nat → Int32) (D_undoMany : Int32) (D_kept : Nat → Int32) (D_keptMany : Int32) (D_refused : Int32) (D_roundMany : Int32) (D_roundOver : Int32) (D_round : Nat → Int32) (D_terms : Int32) (D_termLevel : Nat → Int32) (D_termAdd : Nat → Int32) (D_spot : Int32) (D_number : Nat → Int32) (D_reach : Nat → Int32) (D_edge : Nat → Int32) (D_by : Nat → Int32)  {z_r : Int32} {z_D_kept : Nat → Int32} {z_D_keptMany : Int32} (hF : p_X7_keep D_now D_kept D_keptMany = some (z_r, z_D_kept, z_D_keptMany)) : MJ l yX7_keep cX7_keep 2 (some .int) Rm_X7_keep D (tysU cI cS cII) [.ref (DA 0)] (W_X7_keep cI cS cII DA D_length D_text D_levels D_readLevels D_readAsked D_asked D_readKinds D_now D_before D_undoMany D_kept D_keptMany D_refused D_roundMany D_roundOver D_round D_terms D_termLevel D_termAdd D_spot D_number D_reach D_edge D_by) (some z_r) (W_X7_keep cI cS cII DA D_length D_text D_levels D_readLevels D_readAsked D_asked D_readKinds D_now D_before D_undoMany z_D_kept z_D_keptMany D_refused D_roundMany D_roundOver D_round D_terms D_termLevel D_termAdd D_spot D_number D_reach D_edge D_by) := by
  refine mj_of (own := RX7) (by decide) rfl (Nat.le_of_ble_eq_true rfl) (fun J hJ => ?_)
  show J (W_X7_keep cI cS cII DA D_length D_text D_levels D_readLevels D_readAsked D_asked D_readKinds D_now D_before D_undoMany D_kept D_keptMany D_refused D_roundMany D_roundOver D_round D_terms D_termLevel D_termAdd D_spot D_number D_reach D_edge D_by) 0 [(0, .ref (DA 0))] []
  unfold p_X7_keep at hF
  refine jj_aload_n hJ dX7_keep_0 0 rfl rfl ?_
  refine jj_get hJ lay_X7 dX7_keep_1 0 11 rfl rfl (Nat.le_of_ble_eq_true rfl) kw_224 rfl ?_
  refine jj_iconst hJ dX7_keep_4 ic_2 ?_
  refine jj_icmp_ne hJ 11 dX7_keep_5 rfl (fun c1 => ?_) (fun c1 => ?_)
  · replace hF := iq c1 hF
    refine jj_iconst hJ dX7_keep_11 ic_0 ?_
    refine jj_istore_n hJ dX7_keep_12 rfl (Nat.le_of_ble_eq_true rfl) (lv' := [(1, .int 0), (0, .ref (DA 0))]) rfl ?_
    exact w_X7_keep_13 hJ  FU 0 D_kept D_keptMany hF
  · replace hF := ip c1 hF
    refine jj_bipush hJ dX7_keep_8 bp_m3 ?_
    cases Option.some.inj hF
    exact jj_iret hJ dX7_keep_10
section
def W_X7_back (cI cS cII : ClassId) (DA : Nat → Nat) (D_length : Int32) (D_text : Nat → Int32) (D_levels : Int32) (D_readLevels : Int32) (D_readAsked : Int32) (D_asked : Nat → Int32) (D_readKinds : Nat → Int32) (D_now : Nat → Int32) (D_before : Nat → Int32) (D_undoMany : Int32) (D_kept : Nat → Int32) (D_keptMany : Int32) (D_refused : Int32) (D_roundMany : Int32) (D_roundOver : Int32) (D_round : Nat → Int32) (D_terms : Int32) (D_termLevel : Nat → Int32) (D_termAdd : Nat → Int32) (D_spot : Int32) (D_number : Nat → Int32) (D_reach : Nat → Int32) (D_edge : Nat → Int32) (D_by : Nat → Int32) : va_W := [((DA 0), .inr (7, [.int D_length, .ref (DA 1), .int D_levels, .int D_readLevels, .int D_readAsked, .ref (DA 2), .ref (DA 3), .ref (DA 4), .ref (DA 5), .int D_undoMany, .ref (DA 6), .int D_keptMany, .int D_refused, .int D_roundMany, .int D_roundOver, .ref (DA 7), .int D_terms, .ref (DA 8), .ref (DA 9), .int D_spot, .ref (DA 10), .ref (DA 11), .ref (DA 12), .ref (DA 13)])), ((DA 1), .inl (cI, 200, .inl D_text)), ((DA 2), .inl (cI, 160, .inl D_asked)), ((DA 3), .inl (cI, 10, .inl D_readKinds)), ((DA 4), .inl (cI, 59, .inl D_now)), ((DA 5), .inl (cI, 472, .inl D_before)), ((DA 6), .inl (cI, 118, .inl D_kept)), ((DA 7), .inl (cI, 12, .inl D_round)), ((DA 8), .inl (cI, 6, .inl D_termLevel)), ((DA 9), .inl (cI, 6, .inl D_termAdd)), ((DA 10), .inl (cI, 3, .inl D_number)), ((DA 11), .inl (cI, 100, .inl D_reach)), ((DA 12), .inl (cI, 100, .inl D_edge)), ((DA 13), .inl (cI, 110, .inl D_by))]
abbrev Rm_X7_back : Room := { frames := 0, cells := 0, slots := 0, locals := 0 }
variable {l : Launch} {D : va_G} {cI cS cII : ClassId} {DA : Nat → Nat} {A : Nat → Prop} {J : jT}
variable {z_r : Int32} {z_D_now : Nat → Int32} {z_D_undoMany : Int32} {z_D_keptMany : Int32}
def q_X7_back_22 (D_kept : Nat → Int32)  : Nat → Int32 → (Nat → Int32) → Int32 → Int32 → Option (Int32 × (Nat → Int32) × Int32 × Int32)
  | 0, _, _, _, _ => none
  | n + 1, v1, D_now, D_undoMany, D_keptMany => if 59 ≤ v1 then (some (D_keptMany, D_now, 0, D_keptMany)) else ((rd D_kept 118 ((59 * D_keptMany) + v1)).bind fun x2 => (wr D_now 59 v1 x2).bind fun g4 => q_X7_back_22 D_kept n (v1 + 1) g4 D_undoMany D_keptMany)
set_option maxRecDepth 100000 in
theorem w_X7_back_22 {D_length : Int32} {D_text : Nat → Int32} {D_levels : Int32} {D_readLevels : Int32} {D_readAsked : Int32} {D_asked : Nat → Int32} {D_readKinds : Nat → Int32} {D_before : Nat → Int32} {D_kept : Nat → Int32} {D_refused : Int32} {D_roundMany : Int32} {D_roundOver : Int32} {D_round : Nat → Int32} {D_terms : Int32} {D_termLevel : Nat → Int32} {D_termAdd : Nat → Int32} {D_spot : Int32} {D_number : Nat → Int32} {D_reach : Nat → Int32} {D_edge : Nat → Int32} {D_by : Nat → Int32}   (hJ : jJ l cX7_back 2 D (tysU cI cS cII) RX7 Rm_X7_back (some .int) A (some z_r) (W_X7_back cI cS cII DA D_length D_text D_levels D_readLevels D_readAsked D_asked D_readKinds z_D_now D_before z_D_undoMany D_kept z_D_keptMany D_refused D_roundMany D_roundOver D_round D_terms D_termLevel D_termAdd D_spot D_number D_reach D_edge D_by) J)  : ∀ (n : Nat) (v1 : Int32) (D_now : Nat → Int32) (D_undoMany : Int32) (D_keptMany : Int32), q_X7_back_22 D_kept n v1 D_now D_undoMany D_keptMany = some (z_r, z_D_now, z_D_undoMany, z_D_keptMany) → J (W_X7_back cI cS cII DA D_length D_text D_levels D_readLevels D_readAsked D_asked D_readKinds D_now D_before D_undoMany D_kept D_keptMany D_refused D_roundMany D_roundOver D_round D_terms D_termLevel D_termAdd D_spot D_number D_reach D_edge D_by) 22 [(1, .int v1), (0, .ref (DA 0))] [] := by
  intro n
  induction n with
  | zero =>
    intro v1 D_now D_undoMany D_keptMany hF
    exact no_some (show (none : Option (Int32 × (Nat → Int32) × Int32 × Int32)) = some (z_r, z_D_now, z_D_undoMany, z_D_keptMany) from hF)
  | succ n ih =>
    intro v1 D_now D_undoMany D_keptMany hF
    rw [q_X7_back_22.eq_2] at hF
    refine jj_iload_n hJ dX7_back_22 0 rfl rfl ?_
    refine jj_bipush hJ dX7_back_23 bp_59 ?_
    refine jj_icmp_ge hJ 54 dX7_back_25 rfl (fun c1 => ?_) (fun c1 => ?_)
    · replace hF := ip c1 hF
      refine jj_aload_n hJ dX7_back_54 1 rfl rfl ?_
      refine jj_iconst hJ dX7_back_55 ic_0 ?_
      refine jj_puti hJ lay_X7 tyX7 tyX7_ok nmX7 dX7_back_56 0 9 rfl rfl (Nat.le_of_ble_eq_true rfl) kw_223 rfl rfl (Nat.le_of_ble_eq_true rfl) (wn := (W_X7_back cI cS cII DA D_length D_text D_levels D_readLevels D_readAsked D_asked D_readKinds D_now D_before 0 D_kept D_keptMany D_refused D_roundMany D_roundOver D_round D_terms D_termLevel D_termAdd D_spot D_number D_reach D_edge D_by)) rfl ?_
      refine jj_aload_n hJ dX7_back_59 1 rfl rfl ?_
      refine jj_get hJ lay_X7 dX7_back_60 0 11 rfl rfl (Nat.le_of_ble_eq_true rfl) kw_224 rfl ?_
      cases Option.some.inj hF
      exact jj_iret hJ dX7_back_63
    · replace hF := iq c1 hF
      refine jj_aload_n hJ dX7_back_28 1 rfl rfl ?_
      refine jj_get hJ lay_X7 dX7_back_29 0 7 rfl rfl (Nat.le_of_ble_eq_true rfl) kw_178 rfl ?_
      refine jj_iload_n hJ dX7_back_32 0 rfl rfl ?_
      refine jj_aload_n hJ dX7_back_33 1 rfl rfl ?_
      refine jj_get hJ lay_X7 dX7_back_34 0 10 rfl rfl (Nat.le_of_ble_eq_true rfl) kw_283 rfl ?_
      refine jj_bipush hJ dX7_back_37 bp_59 ?_
      refine jj_aload_n hJ dX7_back_39 1 rfl rfl ?_
      refine jj_get hJ lay_X7 dX7_back_40 0 11 rfl rfl (Nat.le_of_ble_eq_true rfl) kw_224 rfl ?_
      refine jj_imul hJ dX7_back_43 ?_
      refine jj_iload_n hJ dX7_back_44 0 rfl rfl ?_
      refine jj_iadd hJ dX7_back_45 ?_
      obtain ⟨x2, h3, hF⟩ := ob hF
      refine jj_iald hJ dX7_back_46 6 0 rfl rfl h3 ?_
      obtain ⟨g4, h5, hF⟩ := ob hF
      refine jj_iast hJ dX7_back_47 4 0 rfl rfl h5 (wn := (W_X7_back cI cS cII DA D_length D_text D_levels D_readLevels D_readAsked D_asked D_readKinds g4 D_before D_undoMany D_kept D_keptMany D_refused D_roundMany D_roundOver D_round D_terms D_termLevel D_termAdd D_spot D_number D_reach D_edge D_by)) rfl ?_
      refine jj_iinc hJ dX7_back_48 0 rfl (v := v1 + 1) (by rw [ic_1]) (Nat.le_of_ble_eq_true rfl) (lv' := [(1, .int (v1 + 1)), (0, .ref (DA 0))]) rfl ?_
      refine jj_goto hJ 22 dX7_back_51 rfl ?_
      exact ih (v1 + 1) g4 D_undoMany D_keptMany hF
def p_X7_back (D_now : Nat → Int32) (D_undoMany : Int32) (D_kept : Nat → Int32) (D_keptMany : Int32) : Option (Int32 × (Nat → Int32) × Int32 × Int32) := if D_keptMany = 0 then (some ((-2), D_now, D_undoMany, D_keptMany)) else (q_X7_back_22 D_kept FU 0 D_now D_undoMany (D_keptMany - 1))
end
set_option maxRecDepth 100000 in
theorem c_X7_back (l : Launch) (D : va_G) (cI cS cII : ClassId) (DA : Nat → Nat) (D_length : Int32) (D_text : Nat → Int32) (D_levels : Int32) (D_readLevels : Int32) (D_readAsked : Int32) (D_asked : Nat → Int32) (D_readKinds : Nat → Int32) (D_now : Nat → Int32) (D_before : Nat → Int32) (D_undoMany : Int32) (D_kept : Nat → Int32) (D_keptMany : Int32) (D_refused : Int32) (D_roundMany : Int32) (D_roundOver : Int32) (D_round : Nat → Int32) (D_terms : Int32) (D_termLevel : Nat → Int32) (D_termAdd : Nat → Int32) (D_spot : Int32) (D_number : Nat → Int32) (D_reach : Nat → Int32) (D_edge : Nat → Int32) (D_by : Nat → Int32)  {z_r : Int32} {z_D_now : Nat → Int32} {z_D_undoMany : Int32} {z_D_keptMany : Int32} (hF : p_X7_back D_now D_undoMany D_kept D_keptMany = some (z_r, z_D_now, z_D_undoMany, z_D_keptMany)) : MJ l yX7_back cX7_back 2 (some .int) Rm_X7_back D (tysU cI cS cII) [.ref (DA 0)] (W_X7_back cI cS cII DA D_length D_text D_levels D_readLevels D_readAsked D_asked D_readKinds D_now D_before D_undoMany D_kept D_keptMany D_refused D_roundMany D_roundOver D_round D_terms D_termLevel D_termAdd D_spot D_number D_reach D_edge D_by) (some z_r) (W_X7_back cI cS cII DA D_length D_text D_levels D_readLevels D_readAsked D_asked D_readKinds z_D_now D_before z_D_undoMany D_kept z_D_keptMany D_refused D_roundMany D_roundOver D_round D_terms D_termLevel D_termAdd D_spot D_number D_reach D_edge D_by) := by
  refine mj_of (own := RX7) (by decide) rfl (Nat.le_of_ble_eq_true rfl) (fun J hJ => ?_)
  show J (W_X7_back cI cS cII DA D_length D_text D_levels D_readLevels D_readAsked D_asked D_readKinds D_now D_before D_undoMany D_kept D_keptMany D_refused D_roundMany D_roundOver D_round D_terms D_termLevel D_termAdd D_spot D_number D_reach D_edge D_by) 0 [(0, .ref (DA 0))] []
  unfold p_X7_back at hF
  refine jj_aload_n hJ dX7_back_0 0 rfl rfl ?_
  refine jj_get hJ lay_X7 dX7_back_1 0 11 rfl rfl (Nat.le_of_ble_eq_true rfl) kw_224 rfl ?_
  refine jj_if_ne hJ 10 dX7_back_4 rfl (fun c1 => ?_) (fun c1 => ?_)
  · replace hF := iq c1 hF
    refine jj_aload_n hJ dX7_back_10 0 rfl rfl ?_
    refine jj_dup hJ dX7_back_11 rfl ?_
    refine jj_get hJ lay_X7 dX7_back_12 0 11 rfl rfl (Nat.le_of_ble_eq_true rfl) kw_224 rfl ?_
    refine jj_iconst hJ dX7_back_15 ic_1 ?_
    refine jj_isub hJ dX7_back_16 ?_
    refine jj_puti hJ lay_X7 tyX7 tyX7_ok nmX7 dX7_back_17 0 11 rfl rfl (Nat.le_of_ble_eq_true rfl) kw_224 rfl rfl (Nat.le_of_ble_eq_true rfl) (wn := (W_X7_back cI cS cII DA D_length D_text D_levels D_readLevels D_readAsked D_asked D_readKinds D_now D_before D_undoMany D_kept (D_keptMany - 1) D_refused D_roundMany D_roundOver D_round D_terms D_termLevel D_termAdd D_spot D_number D_reach D_edge D_by)) rfl ?_
    refine jj_iconst hJ dX7_back_20 ic_0 ?_
    refine jj_istore_n hJ dX7_back_21 rfl (Nat.le_of_ble_eq_true rfl) (lv' := [(1, .int 0), (0, .ref (DA 0))]) rfl ?_
    exact w_X7_back_22 hJ  FU 0 D_now D_undoMany (D_keptMany - 1) hF
  · replace hF := ip c1 hF
    refine jj_bipush hJ dX7_back_7 bp_m2 ?_
    cases Option.some.inj hF
    exact jj_iret hJ dX7_back_9
section
def W_X7_greatest (cI cS cII : ClassId) (DA : Nat → Nat) (D_length : Int32) (D_text : Nat → Int32) (D_levels : Int32) (D_readLevels : Int32) (D_readAsked : Int32) (D_asked : Nat → Int32) (D_readKinds : Nat → Int32) (D_now : Nat → Int32) (D_before : Nat → Int32) (D_undoMany : Int32) (D_kept : Nat → Int32) (D_keptMany : Int32) (D_refused : Int32) (D_roundMany : Int32) (D_roundOver : Int32) (D_round : Nat → Int32) (D_terms : Int32) (D_termLevel : Nat → Int32) (D_termAdd : Nat → Int32) (D_spot : Int32) (D_number : Nat → Int32) (D_reach : Nat → Int32) (D_edge : Nat → Int32) (D_by : Nat → Int32) : va_W := [((DA 0), .inr (7, [.int D_length, .ref (DA 1), .int D_levels, .int D_readLevels, .int D_readAsked, .ref (DA 2), .ref (DA 3), .ref (DA 4), .ref (DA 5), .int D_undoMany, .ref (DA 6), .int D_keptMany, .int D_refused, .int D_roundMany, .int D_roundOver, .ref (DA 7), .int D_terms, .ref (DA 8), .ref (DA 9), .int D_spot, .ref (DA 10), .ref (DA 11), .ref (DA 12), .ref (DA 13)])), ((DA 1), .inl (cI, 200, .inl D_text)), ((DA 2), .inl (cI, 160, .inl D_asked)), ((DA 3), .inl (cI, 10, .inl D_readKinds)), ((DA 4), .inl (cI, 59, .inl D_now)), ((DA 5), .inl (cI, 472, .inl D_before)), ((DA 6), .inl (cI, 118, .inl D_kept)), ((DA 7), .inl (cI, 12, .inl D_round)), ((DA 8), .inl (cI, 6, .inl D_termLevel)), ((DA 9), .inl (cI, 6, .inl D_termAdd)), ((DA 10), .inl (cI, 3, .inl D_number)), ((DA 11), .inl (cI, 100, .inl D_reach)), ((DA 12), .inl (cI, 100, .inl D_edge)), ((DA 13), .inl (cI, 110, .inl D_by))]
abbrev Rm_X7_greatest : Room := { frames := 1, cells := 0, slots := 0, locals := 23 }
variable {l : Launch} {D : va_G} {cI cS cII : ClassId} {DA : Nat → Nat} {A : Nat → Prop} {J : jT}
variable {z_r : Int32}
def q_X7_greatest_4 (D_levels : Int32) (D_reach : Nat → Int32)  : Nat → Int32 → Int32 → Option (Int32)
  | 0, _, _ => none
  | n + 1, v2, v1 => if D_levels ≤ v2 then (some v1) else ((p_X7_valueOf D_levels D_reach v2).bind fun r3 => if r3 ≤ v1 then (q_X7_greatest_4 D_levels D_reach n (v2 + 1) v1) else ((p_X7_valueOf D_levels D_reach v2).bind fun r6 => q_X7_greatest_4 D_levels D_reach n (v2 + 1) r6))
set_option maxRecDepth 100000 in
theorem w_X7_greatest_4 {D_length : Int32} {D_text : Nat → Int32} {D_levels : Int32} {D_readLevels : Int32} {D_readAsked : Int32} {D_asked : Nat → Int32} {D_readKinds : Nat → Int32} {D_now : Nat → Int32} {D_before : Nat → Int32} {D_undoMany : Int32} {D_kept : Nat → Int32} {D_keptMany : Int32} {D_refused : Int32} {D_roundMany : Int32} {D_roundOver : Int32} {D_round : Nat → Int32} {D_terms : Int32} {D_termLevel : Nat → Int32} {D_termAdd : Nat → Int32} {D_spot : Int32} {D_number : Nat → Int32} {D_reach : Nat → Int32} {D_edge : Nat → Int32} {D_by : Nat → Int32}   (hJ : jJ l cX7_greatest 3 D (tysU cI cS cII) RX7 Rm_X7_greatest (some .int) A (some z_r) (W_X7_greatest cI cS cII DA D_length D_text D_levels D_readLevels D_readAsked D_asked D_readKinds D_now D_before D_undoMany D_kept D_keptMany D_refused D_roundMany D_roundOver D_round D_terms D_termLevel D_termAdd D_spot D_number D_reach D_edge D_by) J)  : ∀ (n : Nat) (v2 : Int32) (v1 : Int32), q_X7_greatest_4 D_levels D_reach n v2 v1 = some z_r → J (W_X7_greatest cI cS cII DA D_length D_text D_levels D_readLevels D_readAsked D_asked D_readKinds D_now D_before D_undoMany D_kept D_keptMany D_refused D_roundMany D_roundOver D_round D_terms D_termLevel D_termAdd D_spot D_number D_reach D_edge D_by) 4 [(2, .int v2), (1, .int v1), (0, .ref (DA 0))] [] := by
  intro n
  induction n with
  | zero =>
    intro v2 v1 hF
    exact no_some (show (none : Option (Int32)) = some z_r from hF)
  | succ n ih =>
    intro v2 v1 hF
    rw [q_X7_greatest_4.eq_2] at hF
    refine jj_iload_n hJ dX7_greatest_4 0 rfl rfl ?_
    refine jj_aload_n hJ dX7_greatest_5 2 rfl rfl ?_
    refine jj_get hJ lay_X7 dX7_greatest_6 0 2 rfl rfl (Nat.le_of_ble_eq_true rfl) kw_186 rfl ?_
    refine jj_icmp_ge hJ 37 dX7_greatest_9 rfl (fun c1 => ?_) (fun c1 => ?_)
    · replace hF := ip c1 hF
      refine jj_iload_n hJ dX7_greatest_37 1 rfl rfl ?_
      cases Option.some.inj hF
      exact jj_iret hJ dX7_greatest_38
    · replace hF := iq c1 hF
      refine jj_aload_n hJ dX7_greatest_12 2 rfl rfl ?_
      refine jj_iload_n hJ dX7_greatest_13 0 rfl rfl ?_
      obtain ⟨r3, h2, hF⟩ := ob hF
      refine jj_callV0 hJ (c_X7_valueOf l D cI cS cII DA D_length D_text D_levels D_readLevels D_readAsked D_asked D_readKinds D_now D_before D_undoMany D_kept D_keptMany D_refused D_roundMany D_roundOver D_round D_terms D_termLevel D_termAdd D_spot D_number D_reach D_edge D_by v2 h2) dX7_greatest_14 kw_237 ⟨Nat.le_of_ble_eq_true rfl, Nat.le_of_ble_eq_true rfl, rfl, rfl⟩ kw_236 kw_238 kw_239 0 rfl rfl rfl rfl (Nat.le_of_ble_eq_true rfl) [0, 1, 2, 3, 4, 5, 6, 7, 8, 9, 10, 11, 12, 13] rfl rfl ?_
      refine jj_iload_n hJ dX7_greatest_17 1 rfl rfl ?_
      refine jj_icmp_le hJ 29 dX7_greatest_18 rfl (fun c4 => ?_) (fun c4 => ?_)
      · replace hF := ip c4 hF
        refine jj_iload_n hJ dX7_greatest_29 1 rfl rfl ?_
        refine jj_istore_n hJ dX7_greatest_30 rfl (Nat.le_of_ble_eq_true rfl) (lv' := [(1, .int v1), (2, .int v2), (0, .ref (DA 0))]) rfl ?_
        refine jj_iinc hJ dX7_greatest_31 1 rfl (v := v2 + 1) (by rw [ic_1]) (Nat.le_of_ble_eq_true rfl) (lv' := [(2, .int (v2 + 1)), (1, .int v1), (0, .ref (DA 0))]) rfl ?_
        refine jj_goto hJ 4 dX7_greatest_34 rfl ?_
        exact ih (v2 + 1) v1 hF
      · replace hF := iq c4 hF
        refine jj_aload_n hJ dX7_greatest_21 2 rfl rfl ?_
        refine jj_iload_n hJ dX7_greatest_22 0 rfl rfl ?_
        obtain ⟨r6, h5, hF⟩ := ob hF
        refine jj_callV0 hJ (c_X7_valueOf l D cI cS cII DA D_length D_text D_levels D_readLevels D_readAsked D_asked D_readKinds D_now D_before D_undoMany D_kept D_keptMany D_refused D_roundMany D_roundOver D_round D_terms D_termLevel D_termAdd D_spot D_number D_reach D_edge D_by v2 h5) dX7_greatest_23 kw_237 ⟨Nat.le_of_ble_eq_true rfl, Nat.le_of_ble_eq_true rfl, rfl, rfl⟩ kw_236 kw_238 kw_239 0 rfl rfl rfl rfl (Nat.le_of_ble_eq_true rfl) [0, 1, 2, 3, 4, 5, 6, 7, 8, 9, 10, 11, 12, 13] rfl rfl ?_
        refine jj_goto hJ 30 dX7_greatest_26 rfl ?_
        refine jj_istore_n hJ dX7_greatest_30 rfl (Nat.le_of_ble_eq_true rfl) (lv' := [(1, .int r6), (2, .int v2), (0, .ref (DA 0))]) rfl ?_
        refine jj_iinc hJ dX7_greatest_31 1 rfl (v := v2 + 1) (by rw [ic_1]) (Nat.le_of_ble_eq_true rfl) (lv' := [(2, .int (v2 + 1)), (1, .int r6), (0, .ref (DA 0))]) rfl ?_
        refine jj_goto hJ 4 dX7_greatest_34 rfl ?_
        exact ih (v2 + 1) r6 hF
def p_X7_greatest (D_levels : Int32) (D_reach : Nat → Int32) : Option (Int32) := q_X7_greatest_4 D_levels D_reach FU 0 0
end
set_option maxRecDepth 100000 in
theorem c_X7_greatest (l : Launch) (D : va_G) (cI cS cII : ClassId) (DA : Nat → Nat) (D_length : Int32) (D_text : Nat → Int32) (D_levels : Int32) (D_readLevels : Int32) (D_readAsked : Int32) (D_asked : Nat → Int32) (D_readKinds : Nat → Int32) (D_now : Nat → Int32) (D_before : Nat → Int32) (D_undoMany : Int32) (D_kept : Nat → Int32) (D_keptMany : Int32) (D_refused : Int32) (D_roundMany : Int32) (D_roundOver : Int32) (D_round : Nat → Int32) (D_terms : Int32) (D_termLevel : Nat → Int32) (D_termAdd : Nat → Int32) (D_spot : Int32) (D_number : Nat → Int32) (D_reach : Nat → Int32) (D_edge : Nat → Int32) (D_by : Nat → Int32)  {z_r : Int32} (hF : p_X7_greatest D_levels D_reach = some z_r) : MJ l yX7_greatest cX7_greatest 3 (some .int) Rm_X7_greatest D (tysU cI cS cII) [.ref (DA 0)] (W_X7_greatest cI cS cII DA D_length D_text D_levels D_readLevels D_readAsked D_asked D_readKinds D_now D_before D_undoMany D_kept D_keptMany D_refused D_roundMany D_roundOver D_round D_terms D_termLevel D_termAdd D_spot D_number D_reach D_edge D_by) (some z_r) (W_X7_greatest cI cS cII DA D_length D_text D_levels D_readLevels D_readAsked D_asked D_readKinds D_now D_before D_undoMany D_kept D_keptMany D_refused D_roundMany D_roundOver D_round D_terms D_termLevel D_termAdd D_spot D_number D_reach D_edge D_by) := by
  refine mj_of (own := RX7) (by decide) rfl (Nat.le_of_ble_eq_true rfl) (fun J hJ => ?_)
  show J (W_X7_greatest cI cS cII DA D_length D_text D_levels D_readLevels D_readAsked D_asked D_readKinds D_now D_before D_undoMany D_kept D_keptMany D_refused D_roundMany D_roundOver D_round D_terms D_termLevel D_termAdd D_spot D_number D_reach D_edge D_by) 0 [(0, .ref (DA 0))] []
  unfold p_X7_greatest at hF
  refine jj_iconst hJ dX7_greatest_0 ic_0 ?_
  refine jj_istore_n hJ dX7_greatest_1 rfl (Nat.le_of_ble_eq_true rfl) (lv' := [(1, .int 0), (0, .ref (DA 0))]) rfl ?_
  refine jj_iconst hJ dX7_greatest_2 ic_0 ?_
  refine jj_istore_n hJ dX7_greatest_3 rfl (Nat.le_of_ble_eq_true rfl) (lv' := [(2, .int 0), (1, .int 0), (0, .ref (DA 0))]) rfl ?_
  exact w_X7_greatest_4 hJ  FU 0 0 hF
section
def W_X7_pairs (cI cS cII : ClassId) (DA : Nat → Nat) (D_length : Int32) (D_text : Nat → Int32) (D_levels : Int32) (D_readLevels : Int32) (D_readAsked : Int32) (D_asked : Nat → Int32) (D_readKinds : Nat → Int32) (D_now : Nat → Int32) (D_before : Nat → Int32) (D_undoMany : Int32) (D_kept : Nat → Int32) (D_keptMany : Int32) (D_refused : Int32) (D_roundMany : Int32) (D_roundOver : Int32) (D_round : Nat → Int32) (D_terms : Int32) (D_termLevel : Nat → Int32) (D_termAdd : Nat → Int32) (D_spot : Int32) (D_number : Nat → Int32) (D_reach : Nat → Int32) (D_edge : Nat → Int32) (D_by : Nat → Int32) : va_W := [((DA 0), .inr (7, [.int D_length, .ref (DA 1), .int D_levels, .int D_readLevels, .int D_readAsked, .ref (DA 2), .ref (DA 3), .ref (DA 4), .ref (DA 5), .int D_undoMany, .ref (DA 6), .int D_keptMany, .int D_refused, .int D_roundMany, .int D_roundOver, .ref (DA 7), .int D_terms, .ref (DA 8), .ref (DA 9), .int D_spot, .ref (DA 10), .ref (DA 11), .ref (DA 12), .ref (DA 13)])), ((DA 1), .inl (cI, 200, .inl D_text)), ((DA 2), .inl (cI, 160, .inl D_asked)), ((DA 3), .inl (cI, 10, .inl D_readKinds)), ((DA 4), .inl (cI, 59, .inl D_now)), ((DA 5), .inl (cI, 472, .inl D_before)), ((DA 6), .inl (cI, 118, .inl D_kept)), ((DA 7), .inl (cI, 12, .inl D_round)), ((DA 8), .inl (cI, 6, .inl D_termLevel)), ((DA 9), .inl (cI, 6, .inl D_termAdd)), ((DA 10), .inl (cI, 3, .inl D_number)), ((DA 11), .inl (cI, 100, .inl D_reach)), ((DA 12), .inl (cI, 100, .inl D_edge)), ((DA 13), .inl (cI, 110, .inl D_by))]
abbrev Rm_X7_pairs : Room := { frames := 1, cells := 0, slots := 0, locals := 20 }
variable {l : Launch} {D : va_G} {cI cS cII : ClassId} {DA : Nat → Nat} {A : Nat → Prop} {J : jT}
variable {z_r : Int32}
def q_X7_pairs_58 (D_levels : Int32) (D_reach : Nat → Int32) (k4 : Int32 → Int32 → Option (Int32)) (v2 : Int32) (v1 : Int32) : Option (Int32) := k4 (v2 + 1) v1
set_option maxRecDepth 100000 in
theorem w_X7_pairs_58 {D_length : Int32} {D_text : Nat → Int32} {D_levels : Int32} {D_readLevels : Int32} {D_readAsked : Int32} {D_asked : Nat → Int32} {D_readKinds : Nat → Int32} {D_now : Nat → Int32} {D_before : Nat → Int32} {D_undoMany : Int32} {D_kept : Nat → Int32} {D_keptMany : Int32} {D_refused : Int32} {D_roundMany : Int32} {D_roundOver : Int32} {D_round : Nat → Int32} {D_terms : Int32} {D_termLevel : Nat → Int32} {D_termAdd : Nat → Int32} {D_spot : Int32} {D_number : Nat → Int32} {D_reach : Nat → Int32} {D_edge : Nat → Int32} {D_by : Nat → Int32}  {k4 : Int32 → Int32 → Option (Int32)} (hJ : jJ l cX7_pairs 4 D (tysU cI cS cII) RX7 Rm_X7_pairs (some .int) A (some z_r) (W_X7_pairs cI cS cII DA D_length D_text D_levels D_readLevels D_readAsked D_asked D_readKinds D_now D_before D_undoMany D_kept D_keptMany D_refused D_roundMany D_roundOver D_round D_terms D_termLevel D_termAdd D_spot D_number D_reach D_edge D_by) J) (hk4 : ∀ (v2 : Int32) (v1 : Int32), k4 v2 v1 = some z_r → J (W_X7_pairs cI cS cII DA D_length D_text D_levels D_readLevels D_readAsked D_asked D_readKinds D_now D_before D_undoMany D_kept D_keptMany D_refused D_roundMany D_roundOver D_round D_terms D_termLevel D_termAdd D_spot D_number D_reach D_edge D_by) 4 [(2, .int v2), (1, .int v1), (0, .ref (DA 0))] []) : ∀ (v2 : Int32) (v1 : Int32), q_X7_pairs_58 D_levels D_reach k4 v2 v1 = some z_r → J (W_X7_pairs cI cS cII DA D_length D_text D_levels D_readLevels D_readAsked D_asked D_readKinds D_now D_before D_undoMany D_kept D_keptMany D_refused D_roundMany D_roundOver D_round D_terms D_termLevel D_termAdd D_spot D_number D_reach D_edge D_by) 58 [(2, .int v2), (1, .int v1), (0, .ref (DA 0))] [] := by
  intro v2 v1 hF
  unfold q_X7_pairs_58 at hF
  refine jj_iinc hJ dX7_pairs_58 0 rfl (v := v2 + 1) (by rw [ic_1]) (Nat.le_of_ble_eq_true rfl) (lv' := [(2, .int (v2 + 1)), (1, .int v1), (0, .ref (DA 0))]) rfl ?_
  refine jj_goto hJ 4 dX7_pairs_61 rfl ?_
  exact hk4 (v2 + 1) v1 hF
def q_X7_pairs_14 (D_levels : Int32) (D_reach : Nat → Int32) (k4 : Int32 → Int32 → Option (Int32)) : Nat → Int32 → Int32 → Int32 → Option (Int32)
  | 0, _, _, _ => none
  | n + 1, v3, v2, v1 => if D_levels ≤ v3 then (q_X7_pairs_58 D_levels D_reach k4 v2 v1) else (if v2 = v3 then (q_X7_pairs_14 D_levels D_reach k4 n (v3 + 1) v2 (v1 + 0)) else ((rd D_reach 100 ((10 * v2) + v3)).bind fun x3 => (p_X7_isWay x3).bind fun r6 => if r6 = 0 then (q_X7_pairs_14 D_levels D_reach k4 n (v3 + 1) v2 (v1 + 0)) else (q_X7_pairs_14 D_levels D_reach k4 n (v3 + 1) v2 (v1 + 1))))
set_option maxRecDepth 100000 in
theorem w_X7_pairs_14 {D_length : Int32} {D_text : Nat → Int32} {D_levels : Int32} {D_readLevels : Int32} {D_readAsked : Int32} {D_asked : Nat → Int32} {D_readKinds : Nat → Int32} {D_now : Nat → Int32} {D_before : Nat → Int32} {D_undoMany : Int32} {D_kept : Nat → Int32} {D_keptMany : Int32} {D_refused : Int32} {D_roundMany : Int32} {D_roundOver : Int32} {D_round : Nat → Int32} {D_terms : Int32} {D_termLevel : Nat → Int32} {D_termAdd : Nat → Int32} {D_spot : Int32} {D_number : Nat → Int32} {D_reach : Nat → Int32} {D_edge : Nat → Int32} {D_by : Nat → Int32}  {k4 : Int32 → Int32 → Option (Int32)} (hJ : jJ l cX7_pairs 4 D (tysU cI cS cII) RX7 Rm_X7_pairs (some .int) A (some z_r) (W_X7_pairs cI cS cII DA D_length D_text D_levels D_readLevels D_readAsked D_asked D_readKinds D_now D_before D_undoMany D_kept D_keptMany D_refused D_roundMany D_roundOver D_round D_terms D_termLevel D_termAdd D_spot D_number D_reach D_edge D_by) J) (hk4 : ∀ (v2 : Int32) (v1 : Int32), k4 v2 v1 = some z_r → J (W_X7_pairs cI cS cII DA D_length D_text D_levels D_readLevels D_readAsked D_asked D_readKinds D_now D_before D_undoMany D_kept D_keptMany D_refused D_roundMany D_roundOver D_round D_terms D_termLevel D_termAdd D_spot D_number D_reach D_edge D_by) 4 [(2, .int v2), (1, .int v1), (0, .ref (DA 0))] []) : ∀ (n : Nat) (v3 : Int32) (v2 : Int32) (v1 : Int32), q_X7_pairs_14 D_levels D_reach k4 n v3 v2 v1 = some z_r → J (W_X7_pairs cI cS cII DA D_length D_text D_levels D_readLevels D_readAsked D_asked D_readKinds D_now D_before D_undoMany D_kept D_keptMany D_refused D_roundMany D_roundOver D_round D_terms D_termLevel D_termAdd D_spot D_number D_reach D_edge D_by) 14 [(3, .int v3), (2, .int v2), (1, .int v1), (0, .ref (DA 0))] [] := by
  intro n
  induction n with
  | zero =>
    intro v3 v2 v1 hF
    exact no_some (show (none : Option (Int32)) = some z_r from hF)
  | succ n ih =>
    intro v3 v2 v1 hF
    rw [q_X7_pairs_14.eq_2] at hF
    refine jj_iload_n hJ dX7_pairs_14 0 rfl rfl ?_
    refine jj_aload_n hJ dX7_pairs_15 3 rfl rfl ?_
    refine jj_get hJ lay_X7 dX7_pairs_16 0 2 rfl rfl (Nat.le_of_ble_eq_true rfl) kw_186 rfl ?_
    refine jj_icmp_ge hJ 58 dX7_pairs_19 rfl (fun c1 => ?_) (fun c1 => ?_)
    · replace hF := ip c1 hF
      refine jj_lv hJ [1, 2, 3] (lv' := [(2, .int v2), (1, .int v1), (0, .ref (DA 0))]) rfl ?_
      exact w_X7_pairs_58 hJ hk4 v2 v1 hF
    · replace hF := iq c1 hF
      refine jj_iload_n hJ dX7_pairs_22 2 rfl rfl ?_
      refine jj_iload_n hJ dX7_pairs_23 1 rfl rfl ?_
      refine jj_iload_n hJ dX7_pairs_24 0 rfl rfl ?_
      refine jj_icmp_eq hJ 49 dX7_pairs_25 rfl (fun c2 => ?_) (fun c2 => ?_)
      · replace hF := ip c2 hF
        refine jj_iconst hJ dX7_pairs_49 ic_0 ?_
        refine jj_iadd hJ dX7_pairs_50 ?_
        refine jj_istore_n hJ dX7_pairs_51 rfl (Nat.le_of_ble_eq_true rfl) (lv' := [(1, .int (v1 + 0)), (3, .int v3), (2, .int v2), (0, .ref (DA 0))]) rfl ?_
        refine jj_iinc hJ dX7_pairs_52 1 rfl (v := v3 + 1) (by rw [ic_1]) (Nat.le_of_ble_eq_true rfl) (lv' := [(3, .int (v3 + 1)), (1, .int (v1 + 0)), (2, .int v2), (0, .ref (DA 0))]) rfl ?_
        refine jj_goto hJ 14 dX7_pairs_55 rfl ?_
        refine jj_lv hJ [0, 2, 1, 3] (lv' := [(3, .int (v3 + 1)), (2, .int v2), (1, .int (v1 + 0)), (0, .ref (DA 0))]) rfl ?_
        exact ih (v3 + 1) v2 (v1 + 0) hF
      · replace hF := iq c2 hF
        refine jj_aload_n hJ dX7_pairs_28 3 rfl rfl ?_
        refine jj_get hJ lay_X7 dX7_pairs_29 0 21 rfl rfl (Nat.le_of_ble_eq_true rfl) kw_185 rfl ?_
        refine jj_bipush hJ dX7_pairs_32 bp_10 ?_
        refine jj_iload_n hJ dX7_pairs_34 1 rfl rfl ?_
        refine jj_imul hJ dX7_pairs_35 ?_
        refine jj_iload_n hJ dX7_pairs_36 0 rfl rfl ?_
        refine jj_iadd hJ dX7_pairs_37 ?_
        obtain ⟨x3, h4, hF⟩ := ob hF
        refine jj_iald hJ dX7_pairs_38 11 0 rfl rfl h4 ?_
        obtain ⟨r6, h5, hF⟩ := ob hF
        refine jj_callS0 hJ (c_X7_isWay l D cI cS cII   x3 h5) dX7_pairs_39 kw_187 ⟨Nat.le_of_ble_eq_true rfl, Nat.le_of_ble_eq_true rfl, rfl, rfl⟩ kw_188 kw_189 rfl rfl (Nat.le_of_ble_eq_true rfl) [] rfl rfl ?_
        refine jj_if_eq hJ 49 dX7_pairs_42 rfl (fun c7 => ?_) (fun c7 => ?_)
        · replace hF := ip c7 hF
          refine jj_iconst hJ dX7_pairs_49 ic_0 ?_
          refine jj_iadd hJ dX7_pairs_50 ?_
          refine jj_istore_n hJ dX7_pairs_51 rfl (Nat.le_of_ble_eq_true rfl) (lv' := [(1, .int (v1 + 0)), (3, .int v3), (2, .int v2), (0, .ref (DA 0))]) rfl ?_
          refine jj_iinc hJ dX7_pairs_52 1 rfl (v := v3 + 1) (by rw [ic_1]) (Nat.le_of_ble_eq_true rfl) (lv' := [(3, .int (v3 + 1)), (1, .int (v1 + 0)), (2, .int v2), (0, .ref (DA 0))]) rfl ?_
          refine jj_goto hJ 14 dX7_pairs_55 rfl ?_
          refine jj_lv hJ [0, 2, 1, 3] (lv' := [(3, .int (v3 + 1)), (2, .int v2), (1, .int (v1 + 0)), (0, .ref (DA 0))]) rfl ?_
          exact ih (v3 + 1) v2 (v1 + 0) hF
        · replace hF := iq c7 hF
          refine jj_iconst hJ dX7_pairs_45 ic_1 ?_
          refine jj_goto hJ 50 dX7_pairs_46 rfl ?_
          refine jj_iadd hJ dX7_pairs_50 ?_
          refine jj_istore_n hJ dX7_pairs_51 rfl (Nat.le_of_ble_eq_true rfl) (lv' := [(1, .int (v1 + 1)), (3, .int v3), (2, .int v2), (0, .ref (DA 0))]) rfl ?_
          refine jj_iinc hJ dX7_pairs_52 1 rfl (v := v3 + 1) (by rw [ic_1]) (Nat.le_of_ble_eq_true rfl) (lv' := [(3, .int (v3 + 1)), (1, .int (v1 + 1)), (2, .int v2), (0, .ref (DA 0))]) rfl ?_
          refine jj_goto hJ 14 dX7_pairs_55 rfl ?_
          refine jj_lv hJ [0, 2, 1, 3] (lv' := [(3, .int (v3 + 1)), (2, .int v2), (1, .int (v1 + 1)), (0, .ref (DA 0))]) rfl ?_
          exact ih (v3 + 1) v2 (v1 + 1) hF
def q_X7_pairs_4 (D_levels : Int32) (D_reach : Nat → Int32)  : Nat → Int32 → Int32 → Option (Int32)
  | 0, _, _ => none
  | n + 1, v2, v1 => if D_levels ≤ v2 then (some v1) else (q_X7_pairs_14 D_levels D_reach (q_X7_pairs_4 D_levels D_reach n) FU 0 v2 v1)
set_option maxRecDepth 100000 in
theorem w_X7_pairs_4 {D_length : Int32} {D_text : Nat → Int32} {D_levels : Int32} {D_readLevels : Int32} {D_readAsked : Int32} {D_asked : Nat → Int32} {D_readKinds : Nat → Int32} {D_now : Nat → Int32} {D_before : Nat → Int32} {D_undoMany : Int32} {D_kept : Nat → Int32} {D_keptMany : Int32} {D_refused : Int32} {D_roundMany : Int32} {D_roundOver : Int32} {D_round : Nat → Int32} {D_terms : Int32} {D_termLevel : Nat → Int32} {D_termAdd : Nat → Int32} {D_spot : Int32} {D_number : Nat → Int32} {D_reach : Nat → Int32} {D_edge : Nat → Int32} {D_by : Nat → Int32}   (hJ : jJ l cX7_pairs 4 D (tysU cI cS cII) RX7 Rm_X7_pairs (some .int) A (some z_r) (W_X7_pairs cI cS cII DA D_length D_text D_levels D_readLevels D_readAsked D_asked D_readKinds D_now D_before D_undoMany D_kept D_keptMany D_refused D_roundMany D_roundOver D_round D_terms D_termLevel D_termAdd D_spot D_number D_reach D_edge D_by) J)  : ∀ (n : Nat) (v2 : Int32) (v1 : Int32), q_X7_pairs_4 D_levels D_reach n v2 v1 = some z_r → J (W_X7_pairs cI cS cII DA D_length D_text D_levels D_readLevels D_readAsked D_asked D_readKinds D_now D_before D_undoMany D_kept D_keptMany D_refused D_roundMany D_roundOver D_round D_terms D_termLevel D_termAdd D_spot D_number D_reach D_edge D_by) 4 [(2, .int v2), (1, .int v1), (0, .ref (DA 0))] [] := by
  intro n
  induction n with
  | zero =>
    intro v2 v1 hF
    exact no_some (show (none : Option (Int32)) = some z_r from hF)
  | succ n ih =>
    intro v2 v1 hF
    rw [q_X7_pairs_4.eq_2] at hF
    refine jj_iload_n hJ dX7_pairs_4 0 rfl rfl ?_
    refine jj_aload_n hJ dX7_pairs_5 2 rfl rfl ?_
    refine jj_get hJ lay_X7 dX7_pairs_6 0 2 rfl rfl (Nat.le_of_ble_eq_true rfl) kw_186 rfl ?_
    refine jj_icmp_ge hJ 64 dX7_pairs_9 rfl (fun c1 => ?_) (fun c1 => ?_)
    · replace hF := ip c1 hF
      refine jj_iload_n hJ dX7_pairs_64 1 rfl rfl ?_
      cases Option.some.inj hF
      exact jj_iret hJ dX7_pairs_65
    · replace hF := iq c1 hF
      refine jj_iconst hJ dX7_pairs_12 ic_0 ?_
      refine jj_istore_n hJ dX7_pairs_13 rfl (Nat.le_of_ble_eq_true rfl) (lv' := [(3, .int 0), (2, .int v2), (1, .int v1), (0, .ref (DA 0))]) rfl ?_
      exact w_X7_pairs_14 hJ (fun v2 v1 => ih v2 v1) FU 0 v2 v1 hF
def p_X7_pairs (D_levels : Int32) (D_reach : Nat → Int32) : Option (Int32) := q_X7_pairs_4 D_levels D_reach FU 0 0
end
set_option maxRecDepth 100000 in
theorem c_X7_pairs (l : Launch) (D : va_G) (cI cS cII : ClassId) (DA : Nat → Nat) (D_length : Int32) (D_text : Nat → Int32) (D_levels : Int32) (D_readLevels : Int32) (D_readAsked : Int32) (D_asked : Nat → Int32) (D_readKinds : Nat → Int32) (D_now : Nat → Int32) (D_before : Nat → Int32) (D_undoMany : Int32) (D_kept : Nat → Int32) (D_keptMany : Int32) (D_refused : Int32) (D_roundMany : Int32) (D_roundOver : Int32) (D_round : Nat → Int32) (D_terms : Int32) (D_termLevel : Nat → Int32) (D_termAdd : Nat → Int32) (D_spot : Int32) (D_number : Nat → Int32) (D_reach : Nat → Int32) (D_edge : Nat → Int32) (D_by : Nat → Int32)  {z_r : Int32} (hF : p_X7_pairs D_levels D_reach = some z_r) : MJ l yX7_pairs cX7_pairs 4 (some .int) Rm_X7_pairs D (tysU cI cS cII) [.ref (DA 0)] (W_X7_pairs cI cS cII DA D_length D_text D_levels D_readLevels D_readAsked D_asked D_readKinds D_now D_before D_undoMany D_kept D_keptMany D_refused D_roundMany D_roundOver D_round D_terms D_termLevel D_termAdd D_spot D_number D_reach D_edge D_by) (some z_r) (W_X7_pairs cI cS cII DA D_length D_text D_levels D_readLevels D_readAsked D_asked D_readKinds D_now D_before D_undoMany D_kept D_keptMany D_refused D_roundMany D_roundOver D_round D_terms D_termLevel D_termAdd D_spot D_number D_reach D_edge D_by) := by
  refine mj_of (own := RX7) (by decide) rfl (Nat.le_of_ble_eq_true rfl) (fun J hJ => ?_)
  show J (W_X7_pairs cI cS cII DA D_length D_text D_levels D_readLevels D_readAsked D_asked D_readKinds D_now D_before D_undoMany D_kept D_keptMany D_refused D_roundMany D_roundOver D_round D_terms D_termLevel D_termAdd D_spot D_number D_reach D_edge D_by) 0 [(0, .ref (DA 0))] []
  unfold p_X7_pairs at hF
  refine jj_iconst hJ dX7_pairs_0 ic_0 ?_
  refine jj_istore_n hJ dX7_pairs_1 rfl (Nat.le_of_ble_eq_true rfl) (lv' := [(1, .int 0), (0, .ref (DA 0))]) rfl ?_
  refine jj_iconst hJ dX7_pairs_2 ic_0 ?_
  refine jj_istore_n hJ dX7_pairs_3 rfl (Nat.le_of_ble_eq_true rfl) (lv' := [(2, .int 0), (1, .int 0), (0, .ref (DA 0))]) rfl ?_
  exact w_X7_pairs_4 hJ  FU 0 0 hF
section
def W_X7_floatingMany (cI cS cII : ClassId) (DA : Nat → Nat) (D_length : Int32) (D_text : Nat → Int32) (D_levels : Int32) (D_readLevels : Int32) (D_readAsked : Int32) (D_asked : Nat → Int32) (D_readKinds : Nat → Int32) (D_now : Nat → Int32) (D_before : Nat → Int32) (D_undoMany : Int32) (D_kept : Nat → Int32) (D_keptMany : Int32) (D_refused : Int32) (D_roundMany : Int32) (D_roundOver : Int32) (D_round : Nat → Int32) (D_terms : Int32) (D_termLevel : Nat → Int32) (D_termAdd : Nat → Int32) (D_spot : Int32) (D_number : Nat → Int32) (D_reach : Nat → Int32) (D_edge : Nat → Int32) (D_by : Nat → Int32) : va_W := [((DA 0), .inr (7, [.int D_length, .ref (DA 1), .int D_levels, .int D_readLevels, .int D_readAsked, .ref (DA 2), .ref (DA 3), .ref (DA 4), .ref (DA 5), .int D_undoMany, .ref (DA 6), .int D_keptMany, .int D_refused, .int D_roundMany, .int D_roundOver, .ref (DA 7), .int D_terms, .ref (DA 8), .ref (DA 9), .int D_spot, .ref (DA 10), .ref (DA 11), .ref (DA 12), .ref (DA 13)])), ((DA 1), .inl (cI, 200, .inl D_text)), ((DA 2), .inl (cI, 160, .inl D_asked)), ((DA 3), .inl (cI, 10, .inl D_readKinds)), ((DA 4), .inl (cI, 59, .inl D_now)), ((DA 5), .inl (cI, 472, .inl D_before)), ((DA 6), .inl (cI, 118, .inl D_kept)), ((DA 7), .inl (cI, 12, .inl D_round)), ((DA 8), .inl (cI, 6, .inl D_termLevel)), ((DA 9), .inl (cI, 6, .inl D_termAdd)), ((DA 10), .inl (cI, 3, .inl D_number)), ((DA 11), .inl (cI, 100, .inl D_reach)), ((DA 12), .inl (cI, 100, .inl D_edge)), ((DA 13), .inl (cI, 110, .inl D_by))]
abbrev Rm_X7_floatingMany : Room := { frames := 1, cells := 0, slots := 0, locals := 21 }
variable {l : Launch} {D : va_G} {cI cS cII : ClassId} {DA : Nat → Nat} {A : Nat → Prop} {J : jT}
variable {z_r : Int32}
def q_X7_floatingMany_4 (D_levels : Int32) (D_now : Nat → Int32)  : Nat → Int32 → Int32 → Option (Int32)
  | 0, _, _ => none
  | n + 1, v2, v1 => if D_levels ≤ v2 then (some v1) else ((p_X7_isFloating D_now v2).bind fun r3 => if r3 = 0 then (q_X7_floatingMany_4 D_levels D_now n (v2 + 1) (v1 + 0)) else (q_X7_floatingMany_4 D_levels D_now n (v2 + 1) (v1 + 1)))
set_option maxRecDepth 100000 in
theorem w_X7_floatingMany_4 {D_length : Int32} {D_text : Nat → Int32} {D_levels : Int32} {D_readLevels : Int32} {D_readAsked : Int32} {D_asked : Nat → Int32} {D_readKinds : Nat → Int32} {D_now : Nat → Int32} {D_before : Nat → Int32} {D_undoMany : Int32} {D_kept : Nat → Int32} {D_keptMany : Int32} {D_refused : Int32} {D_roundMany : Int32} {D_roundOver : Int32} {D_round : Nat → Int32} {D_terms : Int32} {D_termLevel : Nat → Int32} {D_termAdd : Nat → Int32} {D_spot : Int32} {D_number : Nat → Int32} {D_reach : Nat → Int32} {D_edge : Nat → Int32} {D_by : Nat → Int32}   (hJ : jJ l cX7_floatingMany 3 D (tysU cI cS cII) RX7 Rm_X7_floatingMany (some .int) A (some z_r) (W_X7_floatingMany cI cS cII DA D_length D_text D_levels D_readLevels D_readAsked D_asked D_readKinds D_now D_before D_undoMany D_kept D_keptMany D_refused D_roundMany D_roundOver D_round D_terms D_termLevel D_termAdd D_spot D_number D_reach D_edge D_by) J)  : ∀ (n : Nat) (v2 : Int32) (v1 : Int32), q_X7_floatingMany_4 D_levels D_now n v2 v1 = some z_r → J (W_X7_floatingMany cI cS cII DA D_length D_text D_levels D_readLevels D_readAsked D_asked D_readKinds D_now D_before D_undoMany D_kept D_keptMany D_refused D_roundMany D_roundOver D_round D_terms D_termLevel D_termAdd D_spot D_number D_reach D_edge D_by) 4 [(2, .int v2), (1, .int v1), (0, .ref (DA 0))] [] := by
  intro n
  induction n with
  | zero =>
    intro v2 v1 hF
    exact no_some (show (none : Option (Int32)) = some z_r from hF)
  | succ n ih =>
    intro v2 v1 hF
    rw [q_X7_floatingMany_4.eq_2] at hF
    refine jj_iload_n hJ dX7_floatingMany_4 0 rfl rfl ?_
    refine jj_aload_n hJ dX7_floatingMany_5 2 rfl rfl ?_
    refine jj_get hJ lay_X7 dX7_floatingMany_6 0 2 rfl rfl (Nat.le_of_ble_eq_true rfl) kw_186 rfl ?_
    refine jj_icmp_ge hJ 34 dX7_floatingMany_9 rfl (fun c1 => ?_) (fun c1 => ?_)
    · replace hF := ip c1 hF
      refine jj_iload_n hJ dX7_floatingMany_34 1 rfl rfl ?_
      cases Option.some.inj hF
      exact jj_iret hJ dX7_floatingMany_35
    · replace hF := iq c1 hF
      refine jj_iload_n hJ dX7_floatingMany_12 1 rfl rfl ?_
      refine jj_aload_n hJ dX7_floatingMany_13 2 rfl rfl ?_
      refine jj_iload_n hJ dX7_floatingMany_14 0 rfl rfl ?_
      obtain ⟨r3, h2, hF⟩ := ob hF
      refine jj_callV0 hJ (c_X7_isFloating l D cI cS cII DA D_length D_text D_levels D_readLevels D_readAsked D_asked D_readKinds D_now D_before D_undoMany D_kept D_keptMany D_refused D_roundMany D_roundOver D_round D_terms D_termLevel D_termAdd D_spot D_number D_reach D_edge D_by v2 h2) dX7_floatingMany_15 kw_241 ⟨Nat.le_of_ble_eq_true rfl, Nat.le_of_ble_eq_true rfl, rfl, rfl⟩ kw_240 kw_242 kw_243 0 rfl rfl rfl rfl (Nat.le_of_ble_eq_true rfl) [0, 1, 2, 3, 4, 5, 6, 7, 8, 9, 10, 11, 12, 13] rfl rfl ?_
      refine jj_if_eq hJ 25 dX7_floatingMany_18 rfl (fun c4 => ?_) (fun c4 => ?_)
      · replace hF := ip c4 hF
        refine jj_iconst hJ dX7_floatingMany_25 ic_0 ?_
        refine jj_iadd hJ dX7_floatingMany_26 ?_
        refine jj_istore_n hJ dX7_floatingMany_27 rfl (Nat.le_of_ble_eq_true rfl) (lv' := [(1, .int (v1 + 0)), (2, .int v2), (0, .ref (DA 0))]) rfl ?_
        refine jj_iinc hJ dX7_floatingMany_28 1 rfl (v := v2 + 1) (by rw [ic_1]) (Nat.le_of_ble_eq_true rfl) (lv' := [(2, .int (v2 + 1)), (1, .int (v1 + 0)), (0, .ref (DA 0))]) rfl ?_
        refine jj_goto hJ 4 dX7_floatingMany_31 rfl ?_
        exact ih (v2 + 1) (v1 + 0) hF
      · replace hF := iq c4 hF
        refine jj_iconst hJ dX7_floatingMany_21 ic_1 ?_
        refine jj_goto hJ 26 dX7_floatingMany_22 rfl ?_
        refine jj_iadd hJ dX7_floatingMany_26 ?_
        refine jj_istore_n hJ dX7_floatingMany_27 rfl (Nat.le_of_ble_eq_true rfl) (lv' := [(1, .int (v1 + 1)), (2, .int v2), (0, .ref (DA 0))]) rfl ?_
        refine jj_iinc hJ dX7_floatingMany_28 1 rfl (v := v2 + 1) (by rw [ic_1]) (Nat.le_of_ble_eq_true rfl) (lv' := [(2, .int (v2 + 1)), (1, .int (v1 + 1)), (0, .ref (DA 0))]) rfl ?_
        refine jj_goto hJ 4 dX7_floatingMany_31 rfl ?_
        exact ih (v2 + 1) (v1 + 1) hF
def p_X7_floatingMany (D_levels : Int32) (D_now : Nat → Int32) : Option (Int32) := q_X7_floatingMany_4 D_levels D_now FU 0 0
end
set_option maxRecDepth 100000 in
theorem c_X7_floatingMany (l : Launch) (D : va_G) (cI cS cII : ClassId) (DA : Nat → Nat) (D_length : Int32) (D_text : Nat → Int32) (D_levels : Int32) (D_readLevels : Int32) (D_readAsked : Int32) (D_asked : Nat → Int32) (D_readKinds : Nat → Int32) (D_now : Nat → Int32) (D_before : Nat → Int32) (D_undoMany : Int32) (D_kept : Nat → Int32) (D_keptMany : Int32) (D_refused : Int32) (D_roundMany : Int32) (D_roundOver : Int32) (D_round : Nat → Int32) (D_terms : Int32) (D_termLevel : Nat → Int32) (D_termAdd : Nat → Int32) (D_spot : Int32) (D_number : Nat → Int32) (D_reach : Nat → Int32) (D_edge : Nat → Int32) (D_by : Nat → Int32)  {z_r : Int32} (hF : p_X7_floatingMany D_levels D_now = some z_r) : MJ l yX7_floatingMany cX7_floatingMany 3 (some .int) Rm_X7_floatingMany D (tysU cI cS cII) [.ref (DA 0)] (W_X7_floatingMany cI cS cII DA D_length D_text D_levels D_readLevels D_readAsked D_asked D_readKinds D_now D_before D_undoMany D_kept D_keptMany D_refused D_roundMany D_roundOver D_round D_terms D_termLevel D_termAdd D_spot D_number D_reach D_edge D_by) (some z_r) (W_X7_floatingMany cI cS cII DA D_length D_text D_levels D_readLevels D_readAsked D_asked D_readKinds D_now D_before D_undoMany D_kept D_keptMany D_refused D_roundMany D_roundOver D_round D_terms D_termLevel D_termAdd D_spot D_number D_reach D_edge D_by) := by
  refine mj_of (own := RX7) (by decide) rfl (Nat.le_of_ble_eq_true rfl) (fun J hJ => ?_)
  show J (W_X7_floatingMany cI cS cII DA D_length D_text D_levels D_readLevels D_readAsked D_asked D_readKinds D_now D_before D_undoMany D_kept D_keptMany D_refused D_roundMany D_roundOver D_round D_terms D_termLevel D_termAdd D_spot D_number D_reach D_edge D_by) 0 [(0, .ref (DA 0))] []
  unfold p_X7_floatingMany at hF
  refine jj_iconst hJ dX7_floatingMany_0 ic_0 ?_
  refine jj_istore_n hJ dX7_floatingMany_1 rfl (Nat.le_of_ble_eq_true rfl) (lv' := [(1, .int 0), (0, .ref (DA 0))]) rfl ?_
  refine jj_iconst hJ dX7_floatingMany_2 ic_0 ?_
  refine jj_istore_n hJ dX7_floatingMany_3 rfl (Nat.le_of_ble_eq_true rfl) (lv' := [(2, .int 0), (1, .int 0), (0, .ref (DA 0))]) rfl ?_
  exact w_X7_floatingMany_4 hJ  FU 0 0 hF
section
def W_X7_count (cI cS cII : ClassId) (DA : Nat → Nat) (D_length : Int32) (D_text : Nat → Int32) (D_levels : Int32) (D_readLevels : Int32) (D_readAsked : Int32) (D_asked : Nat → Int32) (D_readKinds : Nat → Int32) (D_now : Nat → Int32) (D_before : Nat → Int32) (D_undoMany : Int32) (D_kept : Nat → Int32) (D_keptMany : Int32) (D_refused : Int32) (D_roundMany : Int32) (D_roundOver : Int32) (D_round : Nat → Int32) (D_terms : Int32) (D_termLevel : Nat → Int32) (D_termAdd : Nat → Int32) (D_spot : Int32) (D_number : Nat → Int32) (D_reach : Nat → Int32) (D_edge : Nat → Int32) (D_by : Nat → Int32) : va_W := [((DA 0), .inr (7, [.int D_length, .ref (DA 1), .int D_levels, .int D_readLevels, .int D_readAsked, .ref (DA 2), .ref (DA 3), .ref (DA 4), .ref (DA 5), .int D_undoMany, .ref (DA 6), .int D_keptMany, .int D_refused, .int D_roundMany, .int D_roundOver, .ref (DA 7), .int D_terms, .ref (DA 8), .ref (DA 9), .int D_spot, .ref (DA 10), .ref (DA 11), .ref (DA 12), .ref (DA 13)])), ((DA 1), .inl (cI, 200, .inl D_text)), ((DA 2), .inl (cI, 160, .inl D_asked)), ((DA 3), .inl (cI, 10, .inl D_readKinds)), ((DA 4), .inl (cI, 59, .inl D_now)), ((DA 5), .inl (cI, 472, .inl D_before)), ((DA 6), .inl (cI, 118, .inl D_kept)), ((DA 7), .inl (cI, 12, .inl D_round)), ((DA 8), .inl (cI, 6, .inl D_termLevel)), ((DA 9), .inl (cI, 6, .inl D_termAdd)), ((DA 10), .inl (cI, 3, .inl D_number)), ((DA 11), .inl (cI, 100, .inl D_reach)), ((DA 12), .inl (cI, 100, .inl D_edge)), ((DA 13), .inl (cI, 110, .inl D_by))]
abbrev Rm_X7_count : Room := { frames := 3, cells := 0, slots := 0, locals := 67 }
variable {l : Launch} {D : va_G} {cI cS cII : ClassId} {DA : Nat → Nat} {A : Nat → Prop} {J : jT}
variable {z_r : Int32} {z_D_reach : Nat → Int32} {z_D_edge : Nat → Int32}
def p_X7_count (D_length : Int32) (D_levels : Int32) (D_now : Nat → Int32) (D_undoMany : Int32) (D_keptMany : Int32) (D_refused : Int32) (D_terms : Int32) (D_reach : Nat → Int32) (D_edge : Nat → Int32) (a1 : Int32) : Option (Int32 × (Nat → Int32) × (Nat → Int32)) := (p_X7_find D_levels D_now D_reach D_edge).bind fun (g2, g3) => if a1 = 0 then (some (D_levels, g2, g3)) else if a1 = 1 then ((rd D_now 59 10).bind fun x6 => some (x6, g2, g3)) else if a1 = 2 then (some (D_refused, g2, g3)) else if a1 = 3 then ((p_X7_greatest D_levels g2).bind fun r11 => some (r11, g2, g3)) else if a1 = 4 then ((p_X7_floatingMany D_levels D_now).bind fun r14 => some (r14, g2, g3)) else if a1 = 5 then (some (D_terms, g2, g3)) else if a1 = 6 then (some (D_undoMany, g2, g3)) else if a1 = 7 then (some (D_keptMany, g2, g3)) else if a1 = 8 then (some (D_length, g2, g3)) else if a1 = 9 then ((p_X7_pairs D_levels g2).bind fun r21 => some (r21, g2, g3)) else (some ((-1), g2, g3))
end
set_option maxRecDepth 100000 in
theorem c_X7_count (l : Launch) (D : va_G) (cI cS cII : ClassId) (DA : Nat → Nat) (D_length : Int32) (D_text : Nat → Int32) (D_levels : Int32) (D_readLevels : Int32) (D_readAsked : Int32) (D_asked : Nat → Int32) (D_readKinds : Nat → Int32) (D_now : Nat → Int32) (D_before : Nat → Int32) (D_undoMany : Int32) (D_kept : Nat → Int32) (D_keptMany : Int32) (D_refused : Int32) (D_roundMany : Int32) (D_roundOver : Int32) (D_round : Nat → Int32) (D_terms : Int32) (D_termLevel : Nat → Int32) (D_termAdd : Nat → Int32) (D_spot : Int32) (D_number : Nat → Int32) (D_reach : Nat → Int32) (D_edge : Nat → Int32) (D_by : Nat → Int32) (a1 : Int32) {z_r : Int32} {z_D_reach : Nat → Int32} {z_D_edge : Nat → Int32} (hF : p_X7_count D_length D_levels D_now D_undoMany D_keptMany D_refused D_terms D_reach D_edge a1 = some (z_r, z_D_reach, z_D_edge)) : MJ l yX7_count cX7_count 2 (some .int) Rm_X7_count D (tysU cI cS cII) [.ref (DA 0), .int a1] (W_X7_count cI cS cII DA D_length D_text D_levels D_readLevels D_readAsked D_asked D_readKinds D_now D_before D_undoMany D_kept D_keptMany D_refused D_roundMany D_roundOver D_round D_terms D_termLevel D_termAdd D_spot D_number D_reach D_edge D_by) (some z_r) (W_X7_count cI cS cII DA D_length D_text D_levels D_readLevels D_readAsked D_asked D_readKinds D_now D_before D_undoMany D_kept D_keptMany D_refused D_roundMany D_roundOver D_round D_terms D_termLevel D_termAdd D_spot D_number z_D_reach z_D_edge D_by) := by
  refine mj_of (own := RX7) (by decide) rfl (Nat.le_of_ble_eq_true rfl) (fun J hJ => ?_)
  show J (W_X7_count cI cS cII DA D_length D_text D_levels D_readLevels D_readAsked D_asked D_readKinds D_now D_before D_undoMany D_kept D_keptMany D_refused D_roundMany D_roundOver D_round D_terms D_termLevel D_termAdd D_spot D_number D_reach D_edge D_by) 0 [(0, .ref (DA 0)), (1, .int a1)] []
  unfold p_X7_count at hF
  refine jj_aload_n hJ dX7_count_0 0 rfl rfl ?_
  obtain ⟨⟨g2, g3⟩, h1, hF⟩ := ob hF
  refine jj_callV hJ (c_X7_find l D cI cS cII DA D_length D_text D_levels D_readLevels D_readAsked D_asked D_readKinds D_now D_before D_undoMany D_kept D_keptMany D_refused D_roundMany D_roundOver D_round D_terms D_termLevel D_termAdd D_spot D_number D_reach D_edge D_by  h1) dX7_count_1 kw_203 ⟨Nat.le_of_ble_eq_true rfl, Nat.le_of_ble_eq_true rfl, rfl, rfl⟩ kw_202 kw_204 kw_205 0 rfl rfl rfl rfl (Nat.le_of_ble_eq_true rfl) [0, 1, 2, 3, 4, 5, 6, 7, 8, 9, 10, 11, 12, 13] rfl rfl (wn := (W_X7_count cI cS cII DA D_length D_text D_levels D_readLevels D_readAsked D_asked D_readKinds D_now D_before D_undoMany D_kept D_keptMany D_refused D_roundMany D_roundOver D_round D_terms D_termLevel D_termAdd D_spot D_number g2 g3 D_by)) (jNew_sel rfl [some 0, some 1, some 2, some 3, some 4, some 5, some 6, some 7, some 8, some 9, some 10, some 11, some 12, some 13] (by decide +kernel) rfl) ?_
  refine jj_iload_n hJ dX7_count_4 1 rfl rfl ?_
  by_cases c4 : a1 = 0
  · replace hF := ip c4 hF
    refine jj_tin hJ 60 dX7_count_5 (by rw [c4] <;> decide) (by rw [c4] <;> decide) (by rw [c4] <;> rfl) rfl ?_
    refine jj_aload_n hJ dX7_count_60 0 rfl rfl ?_
    refine jj_get hJ lay_X7 dX7_count_61 0 2 rfl rfl (Nat.le_of_ble_eq_true rfl) kw_186 rfl ?_
    cases Option.some.inj hF
    exact jj_iret hJ dX7_count_64
  replace hF := iq c4 hF
  by_cases c5 : a1 = 1
  · replace hF := ip c5 hF
    refine jj_tin hJ 65 dX7_count_5 (by rw [c5] <;> decide) (by rw [c5] <;> decide) (by rw [c5] <;> rfl) rfl ?_
    refine jj_aload_n hJ dX7_count_65 0 rfl rfl ?_
    refine jj_get hJ lay_X7 dX7_count_66 0 7 rfl rfl (Nat.le_of_ble_eq_true rfl) kw_178 rfl ?_
    refine jj_bipush hJ dX7_count_69 bp_10 ?_
    obtain ⟨x6, h7, hF⟩ := ob hF
    refine jj_iald hJ dX7_count_71 4 0 rfl rfl h7 ?_
    cases Option.some.inj hF
    exact jj_iret hJ dX7_count_72
  replace hF := iq c5 hF
  by_cases c8 : a1 = 2
  · replace hF := ip c8 hF
    refine jj_tin hJ 73 dX7_count_5 (by rw [c8] <;> decide) (by rw [c8] <;> decide) (by rw [c8] <;> rfl) rfl ?_
    refine jj_aload_n hJ dX7_count_73 0 rfl rfl ?_
    refine jj_get hJ lay_X7 dX7_count_74 0 12 rfl rfl (Nat.le_of_ble_eq_true rfl) kw_209 rfl ?_
    cases Option.some.inj hF
    exact jj_iret hJ dX7_count_77
  replace hF := iq c8 hF
  by_cases c9 : a1 = 3
  · replace hF := ip c9 hF
    refine jj_tin hJ 78 dX7_count_5 (by rw [c9] <;> decide) (by rw [c9] <;> decide) (by rw [c9] <;> rfl) rfl ?_
    refine jj_aload_n hJ dX7_count_78 0 rfl rfl ?_
    obtain ⟨r11, h10, hF⟩ := ob hF
    refine jj_callV0 hJ (c_X7_greatest l D cI cS cII DA D_length D_text D_levels D_readLevels D_readAsked D_asked D_readKinds D_now D_before D_undoMany D_kept D_keptMany D_refused D_roundMany D_roundOver D_round D_terms D_termLevel D_termAdd D_spot D_number g2 g3 D_by  h10) dX7_count_79 kw_285 ⟨Nat.le_of_ble_eq_true rfl, Nat.le_of_ble_eq_true rfl, rfl, rfl⟩ kw_284 kw_286 kw_287 0 rfl rfl rfl rfl (Nat.le_of_ble_eq_true rfl) [0, 1, 2, 3, 4, 5, 6, 7, 8, 9, 10, 11, 12, 13] rfl rfl ?_
    cases Option.some.inj hF
    exact jj_iret hJ dX7_count_82
  replace hF := iq c9 hF
  by_cases c12 : a1 = 4
  · replace hF := ip c12 hF
    refine jj_tin hJ 83 dX7_count_5 (by rw [c12] <;> decide) (by rw [c12] <;> decide) (by rw [c12] <;> rfl) rfl ?_
    refine jj_aload_n hJ dX7_count_83 0 rfl rfl ?_
    obtain ⟨r14, h13, hF⟩ := ob hF
    refine jj_callV0 hJ (c_X7_floatingMany l D cI cS cII DA D_length D_text D_levels D_readLevels D_readAsked D_asked D_readKinds D_now D_before D_undoMany D_kept D_keptMany D_refused D_roundMany D_roundOver D_round D_terms D_termLevel D_termAdd D_spot D_number g2 g3 D_by  h13) dX7_count_84 kw_289 ⟨Nat.le_of_ble_eq_true rfl, Nat.le_of_ble_eq_true rfl, rfl, rfl⟩ kw_288 kw_290 kw_291 0 rfl rfl rfl rfl (Nat.le_of_ble_eq_true rfl) [0, 1, 2, 3, 4, 5, 6, 7, 8, 9, 10, 11, 12, 13] rfl rfl ?_
    cases Option.some.inj hF
    exact jj_iret hJ dX7_count_87
  replace hF := iq c12 hF
  by_cases c15 : a1 = 5
  · replace hF := ip c15 hF
    refine jj_tin hJ 88 dX7_count_5 (by rw [c15] <;> decide) (by rw [c15] <;> decide) (by rw [c15] <;> rfl) rfl ?_
    refine jj_aload_n hJ dX7_count_88 0 rfl rfl ?_
    refine jj_get hJ lay_X7 dX7_count_89 0 16 rfl rfl (Nat.le_of_ble_eq_true rfl) kw_222 rfl ?_
    cases Option.some.inj hF
    exact jj_iret hJ dX7_count_92
  replace hF := iq c15 hF
  by_cases c16 : a1 = 6
  · replace hF := ip c16 hF
    refine jj_tin hJ 93 dX7_count_5 (by rw [c16] <;> decide) (by rw [c16] <;> decide) (by rw [c16] <;> rfl) rfl ?_
    refine jj_aload_n hJ dX7_count_93 0 rfl rfl ?_
    refine jj_get hJ lay_X7 dX7_count_94 0 9 rfl rfl (Nat.le_of_ble_eq_true rfl) kw_223 rfl ?_
    cases Option.some.inj hF
    exact jj_iret hJ dX7_count_97
  replace hF := iq c16 hF
  by_cases c17 : a1 = 7
  · replace hF := ip c17 hF
    refine jj_tin hJ 98 dX7_count_5 (by rw [c17] <;> decide) (by rw [c17] <;> decide) (by rw [c17] <;> rfl) rfl ?_
    refine jj_aload_n hJ dX7_count_98 0 rfl rfl ?_
    refine jj_get hJ lay_X7 dX7_count_99 0 11 rfl rfl (Nat.le_of_ble_eq_true rfl) kw_224 rfl ?_
    cases Option.some.inj hF
    exact jj_iret hJ dX7_count_102
  replace hF := iq c17 hF
  by_cases c18 : a1 = 8
  · replace hF := ip c18 hF
    refine jj_tin hJ 103 dX7_count_5 (by rw [c18] <;> decide) (by rw [c18] <;> decide) (by rw [c18] <;> rfl) rfl ?_
    refine jj_aload_n hJ dX7_count_103 0 rfl rfl ?_
    refine jj_get hJ lay_X7 dX7_count_104 0 0 rfl rfl (Nat.le_of_ble_eq_true rfl) kw_143 rfl ?_
    cases Option.some.inj hF
    exact jj_iret hJ dX7_count_107
  replace hF := iq c18 hF
  by_cases c19 : a1 = 9
  · replace hF := ip c19 hF
    refine jj_tin hJ 108 dX7_count_5 (by rw [c19] <;> decide) (by rw [c19] <;> decide) (by rw [c19] <;> rfl) rfl ?_
    refine jj_aload_n hJ dX7_count_108 0 rfl rfl ?_
    obtain ⟨r21, h20, hF⟩ := ob hF
    refine jj_callV0 hJ (c_X7_pairs l D cI cS cII DA D_length D_text D_levels D_readLevels D_readAsked D_asked D_readKinds D_now D_before D_undoMany D_kept D_keptMany D_refused D_roundMany D_roundOver D_round D_terms D_termLevel D_termAdd D_spot D_number g2 g3 D_by  h20) dX7_count_109 kw_293 ⟨Nat.le_of_ble_eq_true rfl, Nat.le_of_ble_eq_true rfl, rfl, rfl⟩ kw_292 kw_294 kw_295 0 rfl rfl rfl rfl (Nat.le_of_ble_eq_true rfl) [0, 1, 2, 3, 4, 5, 6, 7, 8, 9, 10, 11, 12, 13] rfl rfl ?_
    cases Option.some.inj hF
    exact jj_iret hJ dX7_count_112
  replace hF := iq c19 hF
  refine jj_tout hJ 113 dX7_count_5 (by have := lv_neT c4 (show (0 : Int32).toInt = 0 from rfl); have := lv_neT c5 (show (1 : Int32).toInt = 1 from rfl); have := lv_neT c8 (show (2 : Int32).toInt = 2 from rfl); have := lv_neT c9 (show (3 : Int32).toInt = 3 from rfl); have := lv_neT c12 (show (4 : Int32).toInt = 4 from rfl); have := lv_neT c15 (show (5 : Int32).toInt = 5 from rfl); have := lv_neT c16 (show (6 : Int32).toInt = 6 from rfl); have := lv_neT c17 (show (7 : Int32).toInt = 7 from rfl); have := lv_neT c18 (show (8 : Int32).toInt = 8 from rfl); have := lv_neT c19 (show (9 : Int32).toInt = 9 from rfl); omega) rfl ?_
  refine jj_iconst hJ dX7_count_113 ic_m1 ?_
  cases Option.some.inj hF
  exact jj_iret hJ dX7_count_114
