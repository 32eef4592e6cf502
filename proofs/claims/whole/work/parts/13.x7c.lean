theorem bp_8 : (Int8.ofInt (8)).toInt32 = (8 : Int32) := by decide
theorem sp_413 : (Int16.ofInt (413)).toInt32 = (413 : Int32) := by decide
theorem kw_248 : Cond.fieldLink RX7 22 (TX7 8).1 (TX7 8).2.1 (TX7 8).2.2.1 ∈ lw_tbl := tb3 (i := 182) rfl
theorem kw_249 : cwOk yX7_isAdd cX7_isAdd 1 (some .boolean) 1 := ⟨tb4 (i := 82) rfl, tb1 (i := 15) rfl, by decide, by decide, by decide +kernel⟩
theorem kw_250 : Cond.methodLink RX7 177 yX7_isAdd ∈ lw_tbl := tb4 (i := 80) rfl
theorem kw_251 : Cond.static yX7_isAdd ∈ lw_tbl := tb4 (i := 81) rfl
theorem kw_252 : Cond.methodLink RX7 180 yX7_note ∈ lw_tbl := tb4 (i := 85) rfl
theorem kw_253 : cwOk yX7_note cX7_note 2 none 0 := ⟨tb4 (i := 88) rfl, tb1 (i := 15) rfl, by decide, by decide, by decide +kernel⟩
theorem kw_254 : Cond.instanceMethod yX7_note ∈ lw_tbl := tb4 (i := 87) rfl
theorem kw_255 : Cond.selects RX7 yX7_note yX7_note ∈ lw_tbl := tsel (i := 68) (q := (⟨"UniverseLevelsModel", "note", "()V"⟩, 24)) rfl
theorem kw_256 : Cond.constantLong RX7 183 (3) ∈ lw_tbl := tb4 (i := 97) rfl
theorem kw_257 : Cond.constantLong RX7 185 (-1) ∈ lw_tbl := tb4 (i := 106) rfl
theorem kw_258 : Cond.constantLong RX7 187 (10) ∈ lw_tbl := tb4 (i := 107) rfl
theorem kw_259 : Cond.methodLink RX7 189 yX7_isSo ∈ lw_tbl := tb4 (i := 112) rfl
theorem kw_260 : cwOk yX7_isSo cX7_isSo 4 (some .boolean) 3 := ⟨tb4 (i := 115) rfl, tb1 (i := 15) rfl, by decide, by decide, by decide +kernel⟩
theorem kw_261 : Cond.instanceMethod yX7_isSo ∈ lw_tbl := tb4 (i := 114) rfl
theorem kw_262 : Cond.selects RX7 yX7_isSo yX7_isSo ∈ lw_tbl := tsel (i := 69) (q := (⟨"UniverseLevelsModel", "isSo", "(III)Z"⟩, 24)) rfl
theorem kw_263 : Cond.constantLong RX7 192 (99) ∈ lw_tbl := tb4 (i := 120) rfl
theorem kw_264 : cwOk yX7_ones cX7_ones 3 (some .int) 1 := ⟨tb4 (i := 131) rfl, tb1 (i := 15) rfl, by decide, by decide, by decide +kernel⟩
theorem kw_265 : Cond.methodLink RX7 194 yX7_ones ∈ lw_tbl := tb4 (i := 129) rfl
theorem kw_266 : Cond.static yX7_ones ∈ lw_tbl := tb4 (i := 130) rfl
theorem kw_267 : cwOk yX7_isAhead cX7_isAhead 3 (some .boolean) 2 := ⟨tb4 (i := 134) rfl, tb1 (i := 15) rfl, by decide, by decide, by decide +kernel⟩
theorem kw_268 : Cond.methodLink RX7 197 yX7_isAhead ∈ lw_tbl := tb4 (i := 132) rfl
theorem kw_269 : Cond.static yX7_isAhead ∈ lw_tbl := tb4 (i := 133) rfl
theorem kw_270 : cwOk yX7_nth cX7_nth 4 (some .int) 2 := ⟨tb4 (i := 137) rfl, tb1 (i := 15) rfl, by decide, by decide, by decide +kernel⟩
theorem kw_271 : Cond.methodLink RX7 200 yX7_nth ∈ lw_tbl := tb4 (i := 135) rfl
theorem kw_272 : Cond.static yX7_nth ∈ lw_tbl := tb4 (i := 136) rfl
theorem bp_6 : (Int8.ofInt (6)).toInt32 = (6 : Int32) := by decide
theorem kw_273 : Cond.fieldLink RX7 31 (TX7 17).1 (TX7 17).2.1 (TX7 17).2.2.1 ∈ lw_tbl := tb3 (i := 191) rfl
theorem kw_274 : Cond.fieldLink RX7 34 (TX7 18).1 (TX7 18).2.1 (TX7 18).2.2.1 ∈ lw_tbl := tb3 (i := 192) rfl
section
def W_X7_note (cI cS cII : ClassId) (DA : Nat → Nat) (D_length : Int32) (D_text : Nat → Int32) (D_levels : Int32) (D_readLevels : Int32) (D_readAsked : Int32) (D_asked : Nat → Int32) (D_readKinds : Nat → Int32) (D_now : Nat → Int32) (D_before : Nat → Int32) (D_undoMany : Int32) (D_kept : Nat → Int32) (D_keptMany : Int32) (D_refused : Int32) (D_roundMany : Int32) (D_roundOver : Int32) (D_round : Nat → Int32) (D_terms : Int32) (D_termLevel : Nat → Int32) (D_termAdd : Nat → Int32) (D_spot : Int32) (D_number : Nat → Int32) (D_reach : Nat → Int32) (D_edge : Nat → Int32) (D_by : Nat → Int32) : va_W := [((DA 0), .inr (7, [.int D_length, .ref (DA 1), .int D_levels, .int D_readLevels, .int D_readAsked, .ref (DA 2), .ref (DA 3), .ref (DA 4), .ref (DA 5), .int D_undoMany, .ref (DA 6), .int D_keptMany, .int D_refused, .int D_roundMany, .int D_roundOver, .ref (DA 7), .int D_terms, .ref (DA 8), .ref (DA 9), .int D_spot, .ref (DA 10), .ref (DA 11), .ref (DA 12), .ref (DA 13)])), ((DA 1), .inl (cI, 200, .inl D_text)), ((DA 2), .inl (cI, 160, .inl D_asked)), ((DA 3), .inl (cI, 10, .inl D_readKinds)), ((DA 4), .inl (cI, 59, .inl D_now)), ((DA 5), .inl (cI, 472, .inl D_before)), ((DA 6), .inl (cI, 118, .inl D_kept)), ((DA 7), .inl (cI, 12, .inl D_round)), ((DA 8), .inl (cI, 6, .inl D_termLevel)), ((DA 9), .inl (cI, 6, .inl D_termAdd)), ((DA 10), .inl (cI, 3, .inl D_number)), ((DA 11), .inl (cI, 100, .inl D_reach)), ((DA 12), .inl (cI, 100, .inl D_edge)), ((DA 13), .inl (cI, 110, .inl D_by))]
abbrev Rm_X7_note : Room := { frames := 0, cells := 0, slots := 0, locals := 0 }
variable {l : Launch} {D : va_G} {cI cS cII : ClassId} {DA : Nat → Nat} {A : Nat → Prop} {J : jT}
variable {z_D_before : Nat → Int32} {z_D_undoMany : Int32}
def q_X7_note_83 (D_now : Nat → Int32)  (D_before : Nat → Int32) (D_undoMany : Int32) : Option ((Nat → Int32) × Int32) := some (D_before, D_undoMany + 1)
set_option maxRecDepth 100000 in
theorem w_X7_note_83 {D_length : Int32} {D_text : Nat → Int32} {D_levels : Int32} {D_readLevels : Int32} {D_readAsked : Int32} {D_asked : Nat → Int32} {D_readKinds : Nat → Int32} {D_now : Nat → Int32} {D_kept : Nat → Int32} {D_keptMany : Int32} {D_refused : Int32} {D_roundMany : Int32} {D_roundOver : Int32} {D_round : Nat → Int32} {D_terms : Int32} {D_termLevel : Nat → Int32} {D_termAdd : Nat → Int32} {D_spot : Int32} {D_number : Nat → Int32} {D_reach : Nat → Int32} {D_edge : Nat → Int32} {D_by : Nat → Int32}   (hJ : jJ l cX7_note 2 D (tysU cI cS cII) RX7 Rm_X7_note none A none (W_X7_note cI cS cII DA D_length D_text D_levels D_readLevels D_readAsked D_asked D_readKinds D_now z_D_before z_D_undoMany D_kept D_keptMany D_refused D_roundMany D_roundOver D_round D_terms D_termLevel D_termAdd D_spot D_number D_reach D_edge D_by) J)  : ∀ (D_before : Nat → Int32) (D_undoMany : Int32), q_X7_note_83 D_now D_before D_undoMany = some (z_D_before, z_D_undoMany) → J (W_X7_note cI cS cII DA D_length D_text D_levels D_readLevels D_readAsked D_asked D_readKinds D_now D_before D_undoMany D_kept D_keptMany D_refused D_roundMany D_roundOver D_round D_terms D_termLevel D_termAdd D_spot D_number D_reach D_edge D_by) 83 [(0, .ref (DA 0))] [] := by
  intro D_before D_undoMany hF
  unfold q_X7_note_83 at hF
  refine jj_aload_n hJ dX7_note_83 0 rfl rfl ?_
  refine jj_dup hJ dX7_note_84 rfl ?_
  refine jj_get hJ lay_X7 dX7_note_85 0 9 rfl rfl (Nat.le_of_ble_eq_true rfl) kw_223 rfl ?_
  refine jj_iconst hJ dX7_note_88 ic_1 ?_
  refine jj_iadd hJ dX7_note_89 ?_
  refine jj_puti hJ lay_X7 tyX7 tyX7_ok nmX7 dX7_note_90 0 9 rfl rfl (Nat.le_of_ble_eq_true rfl) kw_223 rfl rfl (Nat.le_of_ble_eq_true rfl) (wn := (W_X7_note cI cS cII DA D_length D_text D_levels D_readLevels D_readAsked D_asked D_readKinds D_now D_before (D_undoMany + 1) D_kept D_keptMany D_refused D_roundMany D_roundOver D_round D_terms D_termLevel D_termAdd D_spot D_number D_reach D_edge D_by)) rfl ?_
  cases Option.some.inj hF
  exact jj_vret hJ dX7_note_93
def q_X7_note_51 (D_now : Nat → Int32)  : Nat → Int32 → (Nat → Int32) → Int32 → Option ((Nat → Int32) × Int32)
  | 0, _, _, _ => none
  | n + 1, v1, D_before, D_undoMany => if 59 ≤ v1 then (q_X7_note_83 D_now D_before D_undoMany) else ((rd D_now 59 v1).bind fun x2 => (wr D_before 472 ((59 * D_undoMany) + v1) x2).bind fun g4 => q_X7_note_51 D_now n (v1 + 1) g4 D_undoMany)
set_option maxRecDepth 100000 in
theorem w_X7_note_51 {D_length : Int32} {D_text : Nat → Int32} {D_levels : Int32} {D_readLevels : Int32} {D_readAsked : Int32} {D_asked : Nat → Int32} {D_readKinds : Nat → Int32} {D_now : Nat → Int32} {D_kept : Nat → Int32} {D_keptMany : Int32} {D_refused : Int32} {D_roundMany : Int32} {D_roundOver : Int32} {D_round : Nat → Int32} {D_terms : Int32} {D_termLevel : Nat → Int32} {D_termAdd : Nat → Int32} {D_spot : Int32} {D_number : Nat → Int32} {D_reach : Nat → Int32} {D_edge : Nat → Int32} {D_by : Nat → Int32}   (hJ : jJ l cX7_note 2 D (tysU cI cS cII) RX7 Rm_X7_note none A none (W_X7_note cI cS cII DA D_length D_text D_levels D_readLevels D_readAsked D_asked D_readKinds D_now z_D_before z_D_undoMany D_kept D_keptMany D_refused D_roundMany D_roundOver D_round D_terms D_termLevel D_termAdd D_spot D_number D_reach D_edge D_by) J)  : ∀ (n : Nat) (v1 : Int32) (D_before : Nat → Int32) (D_undoMany : Int32), q_X7_note_51 D_now n v1 D_before D_undoMany = some (z_D_before, z_D_undoMany) → J (W_X7_note cI cS cII DA D_length D_text D_levels D_readLevels D_readAsked D_asked D_readKinds D_now D_before D_undoMany D_kept D_keptMany D_refused D_roundMany D_roundOver D_round D_terms D_termLevel D_termAdd D_spot D_number D_reach D_edge D_by) 51 [(1, .int v1), (0, .ref (DA 0))] [] := by
  intro n
  induction n with
  | zero =>
    intro v1 D_before D_undoMany hF
    exact no_some (show (none : Option ((Nat → Int32) × Int32)) = some (z_D_before, z_D_undoMany) from hF)
  | succ n ih =>
    intro v1 D_before D_undoMany hF
    rw [q_X7_note_51.eq_2] at hF
    refine jj_iload_n hJ dX7_note_51 0 rfl rfl ?_
    refine jj_bipush hJ dX7_note_52 bp_59 ?_
    refine jj_icmp_ge hJ 83 dX7_note_54 rfl (fun c1 => ?_) (fun c1 => ?_)
    · replace hF := ip c1 hF
      refine jj_lv hJ [1] (lv' := [(0, .ref (DA 0))]) rfl ?_
      exact w_X7_note_83 hJ  D_before D_undoMany hF
    · replace hF := iq c1 hF
      refine jj_aload_n hJ dX7_note_57 1 rfl rfl ?_
      refine jj_get hJ lay_X7 dX7_note_58 0 8 rfl rfl (Nat.le_of_ble_eq_true rfl) kw_248 rfl ?_
      refine jj_bipush hJ dX7_note_61 bp_59 ?_
      refine jj_aload_n hJ dX7_note_63 1 rfl rfl ?_
      refine jj_get hJ lay_X7 dX7_note_64 0 9 rfl rfl (Nat.le_of_ble_eq_true rfl) kw_223 rfl ?_
      refine jj_imul hJ dX7_note_67 ?_
      refine jj_iload_n hJ dX7_note_68 0 rfl rfl ?_
      refine jj_iadd hJ dX7_note_69 ?_
      refine jj_aload_n hJ dX7_note_70 1 rfl rfl ?_
      refine jj_get hJ lay_X7 dX7_note_71 0 7 rfl rfl (Nat.le_of_ble_eq_true rfl) kw_178 rfl ?_
      refine jj_iload_n hJ dX7_note_74 0 rfl rfl ?_
      obtain ⟨x2, h3, hF⟩ := ob hF
      refine jj_iald hJ dX7_note_75 4 0 rfl rfl h3 ?_
      obtain ⟨g4, h5, hF⟩ := ob hF
      refine jj_iast hJ dX7_note_76 5 0 rfl rfl h5 (wn := (W_X7_note cI cS cII DA D_length D_text D_levels D_readLevels D_readAsked D_asked D_readKinds D_now g4 D_undoMany D_kept D_keptMany D_refused D_roundMany D_roundOver D_round D_terms D_termLevel D_termAdd D_spot D_number D_reach D_edge D_by)) rfl ?_
      refine jj_iinc hJ dX7_note_77 0 rfl (v := v1 + 1) (by rw [ic_1]) (Nat.le_of_ble_eq_true rfl) (lv' := [(1, .int (v1 + 1)), (0, .ref (DA 0))]) rfl ?_
      refine jj_goto hJ 51 dX7_note_80 rfl ?_
      exact ih (v1 + 1) g4 D_undoMany hF
def q_X7_note_39 (D_now : Nat → Int32)  (D_before : Nat → Int32) (D_undoMany : Int32) : Option ((Nat → Int32) × Int32) := q_X7_note_51 D_now FU 0 D_before (D_undoMany - 1)
set_option maxRecDepth 100000 in
theorem w_X7_note_39 {D_length : Int32} {D_text : Nat → Int32} {D_levels : Int32} {D_readLevels : Int32} {D_readAsked : Int32} {D_asked : Nat → Int32} {D_readKinds : Nat → Int32} {D_now : Nat → Int32} {D_kept : Nat → Int32} {D_keptMany : Int32} {D_refused : Int32} {D_roundMany : Int32} {D_roundOver : Int32} {D_round : Nat → Int32} {D_terms : Int32} {D_termLevel : Nat → Int32} {D_termAdd : Nat → Int32} {D_spot : Int32} {D_number : Nat → Int32} {D_reach : Nat → Int32} {D_edge : Nat → Int32} {D_by : Nat → Int32}   (hJ : jJ l cX7_note 2 D (tysU cI cS cII) RX7 Rm_X7_note none A none (W_X7_note cI cS cII DA D_length D_text D_levels D_readLevels D_readAsked D_asked D_readKinds D_now z_D_before z_D_undoMany D_kept D_keptMany D_refused D_roundMany D_roundOver D_round D_terms D_termLevel D_termAdd D_spot D_number D_reach D_edge D_by) J)  : ∀ (D_before : Nat → Int32) (D_undoMany : Int32), q_X7_note_39 D_now D_before D_undoMany = some (z_D_before, z_D_undoMany) → J (W_X7_note cI cS cII DA D_length D_text D_levels D_readLevels D_readAsked D_asked D_readKinds D_now D_before D_undoMany D_kept D_keptMany D_refused D_roundMany D_roundOver D_round D_terms D_termLevel D_termAdd D_spot D_number D_reach D_edge D_by) 39 [(0, .ref (DA 0))] [] := by
  intro D_before D_undoMany hF
  unfold q_X7_note_39 at hF
  refine jj_aload_n hJ dX7_note_39 0 rfl rfl ?_
  refine jj_dup hJ dX7_note_40 rfl ?_
  refine jj_get hJ lay_X7 dX7_note_41 0 9 rfl rfl (Nat.le_of_ble_eq_true rfl) kw_223 rfl ?_
  refine jj_iconst hJ dX7_note_44 ic_1 ?_
  refine jj_isub hJ dX7_note_45 ?_
  refine jj_puti hJ lay_X7 tyX7 tyX7_ok nmX7 dX7_note_46 0 9 rfl rfl (Nat.le_of_ble_eq_true rfl) kw_223 rfl rfl (Nat.le_of_ble_eq_true rfl) (wn := (W_X7_note cI cS cII DA D_length D_text D_levels D_readLevels D_readAsked D_asked D_readKinds D_now D_before (D_undoMany - 1) D_kept D_keptMany D_refused D_roundMany D_roundOver D_round D_terms D_termLevel D_termAdd D_spot D_number D_reach D_edge D_by)) rfl ?_
  refine jj_iconst hJ dX7_note_49 ic_0 ?_
  refine jj_istore_n hJ dX7_note_50 rfl (Nat.le_of_ble_eq_true rfl) (lv' := [(1, .int 0), (0, .ref (DA 0))]) rfl ?_
  exact w_X7_note_51 hJ  FU 0 D_before (D_undoMany - 1) hF
def q_X7_note_11 (D_now : Nat → Int32)  : Nat → Int32 → (Nat → Int32) → Int32 → Option ((Nat → Int32) × Int32)
  | 0, _, _, _ => none
  | n + 1, v1, D_before, D_undoMany => if 413 ≤ v1 then (q_X7_note_39 D_now D_before D_undoMany) else ((rd D_before 472 (59 + v1)).bind fun x2 => (wr D_before 472 v1 x2).bind fun g4 => q_X7_note_11 D_now n (v1 + 1) g4 D_undoMany)
set_option maxRecDepth 100000 in
theorem w_X7_note_11 {D_length : Int32} {D_text : Nat → Int32} {D_levels : Int32} {D_readLevels : Int32} {D_readAsked : Int32} {D_asked : Nat → Int32} {D_readKinds : Nat → Int32} {D_now : Nat → Int32} {D_kept : Nat → Int32} {D_keptMany : Int32} {D_refused : Int32} {D_roundMany : Int32} {D_roundOver : Int32} {D_round : Nat → Int32} {D_terms : Int32} {D_termLevel : Nat → Int32} {D_termAdd : Nat → Int32} {D_spot : Int32} {D_number : Nat → Int32} {D_reach : Nat → Int32} {D_edge : Nat → Int32} {D_by : Nat → Int32}   (hJ : jJ l cX7_note 2 D (tysU cI cS cII) RX7 Rm_X7_note none A none (W_X7_note cI cS cII DA D_length D_text D_levels D_readLevels D_readAsked D_asked D_readKinds D_now z_D_before z_D_undoMany D_kept D_keptMany D_refused D_roundMany D_roundOver D_round D_terms D_termLevel D_termAdd D_spot D_number D_reach D_edge D_by) J)  : ∀ (n : Nat) (v1 : Int32) (D_before : Nat → Int32) (D_undoMany : Int32), q_X7_note_11 D_now n v1 D_before D_undoMany = some (z_D_before, z_D_undoMany) → J (W_X7_note cI cS cII DA D_length D_text D_levels D_readLevels D_readAsked D_asked D_readKinds D_now D_before D_undoMany D_kept D_keptMany D_refused D_roundMany D_roundOver D_round D_terms D_termLevel D_termAdd D_spot D_number D_reach D_edge D_by) 11 [(1, .int v1), (0, .ref (DA 0))] [] := by
  intro n
  induction n with
  | zero =>
    intro v1 D_before D_undoMany hF
    exact no_some (show (none : Option ((Nat → Int32) × Int32)) = some (z_D_before, z_D_undoMany) from hF)
  | succ n ih =>
    intro v1 D_before D_undoMany hF
    rw [q_X7_note_11.eq_2] at hF
    refine jj_iload_n hJ dX7_note_11 0 rfl rfl ?_
    refine jj_sipush hJ dX7_note_12 sp_413 ?_
    refine jj_icmp_ge hJ 39 dX7_note_15 rfl (fun c1 => ?_) (fun c1 => ?_)
    · replace hF := ip c1 hF
      refine jj_lv hJ [1] (lv' := [(0, .ref (DA 0))]) rfl ?_
      exact w_X7_note_39 hJ  D_before D_undoMany hF
    · replace hF := iq c1 hF
      refine jj_aload_n hJ dX7_note_18 1 rfl rfl ?_
      refine jj_get hJ lay_X7 dX7_note_19 0 8 rfl rfl (Nat.le_of_ble_eq_true rfl) kw_248 rfl ?_
      refine jj_iload_n hJ dX7_note_22 0 rfl rfl ?_
      refine jj_aload_n hJ dX7_note_23 1 rfl rfl ?_
      refine jj_get hJ lay_X7 dX7_note_24 0 8 rfl rfl (Nat.le_of_ble_eq_true rfl) kw_248 rfl ?_
      refine jj_bipush hJ dX7_note_27 bp_59 ?_
      refine jj_iload_n hJ dX7_note_29 0 rfl rfl ?_
      refine jj_iadd hJ dX7_note_30 ?_
      obtain ⟨x2, h3, hF⟩ := ob hF
      refine jj_iald hJ dX7_note_31 5 0 rfl rfl h3 ?_
      obtain ⟨g4, h5, hF⟩ := ob hF
      refine jj_iast hJ dX7_note_32 5 0 rfl rfl h5 (wn := (W_X7_note cI cS cII DA D_length D_text D_levels D_readLevels D_readAsked D_asked D_readKinds D_now g4 D_undoMany D_kept D_keptMany D_refused D_roundMany D_roundOver D_round D_terms D_termLevel D_termAdd D_spot D_number D_reach D_edge D_by)) rfl ?_
      refine jj_iinc hJ dX7_note_33 0 rfl (v := v1 + 1) (by rw [ic_1]) (Nat.le_of_ble_eq_true rfl) (lv' := [(1, .int (v1 + 1)), (0, .ref (DA 0))]) rfl ?_
      refine jj_goto hJ 11 dX7_note_36 rfl ?_
      exact ih (v1 + 1) g4 D_undoMany hF
def p_X7_note (D_now : Nat → Int32) (D_before : Nat → Int32) (D_undoMany : Int32) : Option ((Nat → Int32) × Int32) := if D_undoMany = 8 then (q_X7_note_11 D_now FU 0 D_before D_undoMany) else (q_X7_note_51 D_now FU 0 D_before D_undoMany)
end
set_option maxRecDepth 100000 in
theorem c_X7_note (l : Launch) (D : va_G) (cI cS cII : ClassId) (DA : Nat → Nat) (D_length : Int32) (D_text : Nat → Int32) (D_levels : Int32) (D_readLevels : Int32) (D_readAsked : Int32) (D_asked : Nat → Int32) (D_readKinds : Nat → Int32) (D_now : Nat → Int32) (D_before : Nat → Int32) (D_undoMany : Int32) (D_kept : Nat → Int32) (D_keptMany : Int32) (D_refused : Int32) (D_roundMany : Int32) (D_roundOver : Int32) (D_round : Nat → Int32) (D_terms : Int32) (D_termLevel : Nat → Int32) (D_termAdd : Nat → Int32) (D_spot : Int32) (D_number : Nat → Int32) (D_reach : Nat → Int32) (D_edge : Nat → Int32) (D_by : Nat → Int32)  {z_D_before : Nat → Int32} {z_D_undoMany : Int32} (hF : p_X7_note D_now D_before D_undoMany = some (z_D_before, z_D_undoMany)) : MJ l yX7_note cX7_note 2 none Rm_X7_note D (tysU cI cS cII) [.ref (DA 0)] (W_X7_note cI cS cII DA D_length D_text D_levels D_readLevels D_readAsked D_asked D_readKinds D_now D_before D_undoMany D_kept D_keptMany D_refused D_roundMany D_roundOver D_round D_terms D_termLevel D_termAdd D_spot D_number D_reach D_edge D_by) none (W_X7_note cI cS cII DA D_length D_text D_levels D_readLevels D_readAsked D_asked D_readKinds D_now z_D_before z_D_undoMany D_kept D_keptMany D_refused D_roundMany D_roundOver D_round D_terms D_termLevel D_termAdd D_spot D_number D_reach D_edge D_by) := by
  refine mj_of (own := RX7) (by decide) rfl (Nat.le_of_ble_eq_true rfl) (fun J hJ => ?_)
  show J (W_X7_note cI cS cII DA D_length D_text D_levels D_readLevels D_readAsked D_asked D_readKinds D_now D_before D_undoMany D_kept D_keptMany D_refused D_roundMany D_roundOver D_round D_terms D_termLevel D_termAdd D_spot D_number D_reach D_edge D_by) 0 [(0, .ref (DA 0))] []
  unfold p_X7_note at hF
  refine jj_aload_n hJ dX7_note_0 0 rfl rfl ?_
  refine jj_get hJ lay_X7 dX7_note_1 0 9 rfl rfl (Nat.le_of_ble_eq_true rfl) kw_223 rfl ?_
  refine jj_bipush hJ dX7_note_4 bp_8 ?_
  refine jj_icmp_ne hJ 49 dX7_note_6 rfl (fun c1 => ?_) (fun c1 => ?_)
  · replace hF := iq c1 hF
    refine jj_iconst hJ dX7_note_49 ic_0 ?_
    refine jj_istore_n hJ dX7_note_50 rfl (Nat.le_of_ble_eq_true rfl) (lv' := [(1, .int 0), (0, .ref (DA 0))]) rfl ?_
    exact w_X7_note_51 hJ  FU 0 D_before D_undoMany hF
  · replace hF := ip c1 hF
    refine jj_iconst hJ dX7_note_9 ic_0 ?_
    refine jj_istore_n hJ dX7_note_10 rfl (Nat.le_of_ble_eq_true rfl) (lv' := [(1, .int 0), (0, .ref (DA 0))]) rfl ?_
    exact w_X7_note_11 hJ  FU 0 D_before D_undoMany hF
section
def W_X7_ask (cI cS cII : ClassId) (DA : Nat → Nat) (D_length : Int32) (D_text : Nat → Int32) (D_levels : Int32) (D_readLevels : Int32) (D_readAsked : Int32) (D_asked : Nat → Int32) (D_readKinds : Nat → Int32) (D_now : Nat → Int32) (D_before : Nat → Int32) (D_undoMany : Int32) (D_kept : Nat → Int32) (D_keptMany : Int32) (D_refused : Int32) (D_roundMany : Int32) (D_roundOver : Int32) (D_round : Nat → Int32) (D_terms : Int32) (D_termLevel : Nat → Int32) (D_termAdd : Nat → Int32) (D_spot : Int32) (D_number : Nat → Int32) (D_reach : Nat → Int32) (D_edge : Nat → Int32) (D_by : Nat → Int32) : va_W := [((DA 0), .inr (7, [.int D_length, .ref (DA 1), .int D_levels, .int D_readLevels, .int D_readAsked, .ref (DA 2), .ref (DA 3), .ref (DA 4), .ref (DA 5), .int D_undoMany, .ref (DA 6), .int D_keptMany, .int D_refused, .int D_roundMany, .int D_roundOver, .ref (DA 7), .int D_terms, .ref (DA 8), .ref (DA 9), .int D_spot, .ref (DA 10), .ref (DA 11), .ref (DA 12), .ref (DA 13)])), ((DA 1), .inl (cI, 200, .inl D_text)), ((DA 2), .inl (cI, 160, .inl D_asked)), ((DA 3), .inl (cI, 10, .inl D_readKinds)), ((DA 4), .inl (cI, 59, .inl D_now)), ((DA 5), .inl (cI, 472, .inl D_before)), ((DA 6), .inl (cI, 118, .inl D_kept)), ((DA 7), .inl (cI, 12, .inl D_round)), ((DA 8), .inl (cI, 6, .inl D_termLevel)), ((DA 9), .inl (cI, 6, .inl D_termAdd)), ((DA 10), .inl (cI, 3, .inl D_number)), ((DA 11), .inl (cI, 100, .inl D_reach)), ((DA 12), .inl (cI, 100, .inl D_edge)), ((DA 13), .inl (cI, 110, .inl D_by))]
abbrev Rm_X7_ask : Room := { frames := 4, cells := 0, slots := 0, locals := 91 }
variable {l : Launch} {D : va_G} {cI cS cII : ClassId} {DA : Nat → Nat} {A : Nat → Prop} {J : jT}
variable {z_r : Int32} {z_D_now : Nat → Int32} {z_D_before : Nat → Int32} {z_D_undoMany : Int32} {z_D_refused : Int32} {z_D_roundMany : Int32} {z_D_roundOver : Int32} {z_D_round : Nat → Int32} {z_D_reach : Nat → Int32} {z_D_edge : Nat → Int32} {z_D_by : Nat → Int32}
def p_X7_ask (D_levels : Int32) (D_now : Nat → Int32) (D_before : Nat → Int32) (D_undoMany : Int32) (D_refused : Int32) (D_roundMany : Int32) (D_roundOver : Int32) (D_round : Nat → Int32) (D_reach : Nat → Int32) (D_edge : Nat → Int32) (D_by : Nat → Int32) (a1 : Int32) (a2 : Int32) (a3 : Int32) : Option (Int32 × (Nat → Int32) × (Nat → Int32) × Int32 × Int32 × Int32 × Int32 × (Nat → Int32) × (Nat → Int32) × (Nat → Int32) × (Nat → Int32)) := (p_X7_isLevel D_levels a1).bind fun r2 => if r2 = 0 then (some ((-1), D_now, D_before, D_undoMany, D_refused, D_roundMany, D_roundOver, D_round, D_reach, D_edge, D_by)) else ((p_X7_isAdd a2).bind fun r5 => if r5 = 0 then (some ((-1), D_now, D_before, D_undoMany, D_refused, D_roundMany, D_roundOver, D_round, D_reach, D_edge, D_by)) else ((p_X7_isLevel D_levels a3).bind fun r8 => if r8 = 0 then (some ((-1), D_now, D_before, D_undoMany, D_refused, D_roundMany, D_roundOver, D_round, D_reach, D_edge, D_by)) else (if a1 = a3 then (some ((-1), D_now, D_before, D_undoMany, D_refused, D_roundMany, D_roundOver, D_round, D_reach, D_edge, D_by)) else ((p_X7_mayTake D_levels D_now D_refused D_roundMany D_roundOver D_round D_reach D_edge D_by a1 a2 a3).bind fun (r12, g13, g14, g15, g16, g17, g18, g19) => if r12 = 0 then (some ((-2), D_now, D_before, D_undoMany, g13, g14, g15, g16, g17, g18, g19)) else ((rd D_now 59 10).bind fun x21 => if x21 = 16 then (some ((-3), D_now, D_before, D_undoMany, g13, g14, g15, g16, g17, g18, g19)) else ((p_X7_note D_now D_before D_undoMany).bind fun (g25, g26) => (p_X7_takeBound D_now a1 a2 a3).bind fun g28 => (rd g28 59 10).bind fun x29 => some (x29 - 1, g28, g25, g26, g13, g14, g15, g16, g17, g18, g19)))))))
end
set_option maxRecDepth 100000 in
theorem c_X7_ask (l : Launch) (D : va_G) (cI cS cII : ClassId) (DA : Nat → Nat) (D_length : Int32) (D_text : Nat → Int32) (D_levels : Int32) (D_readLevels : Int32) (D_readAsked : Int32) (D_asked : Nat → Int32) (D_readKinds : Nat → Int32) (D_now : Nat → Int32) (D_before : Nat → Int32) (D_undoMany : Int32) (D_kept : Nat → Int32) (D_keptMany : Int32) (D_refused : Int32) (D_roundMany : Int32) (D_roundOver : Int32) (D_round : Nat → Int32) (D_terms : Int32) (D_termLevel : Nat → Int32) (D_termAdd : Nat → Int32) (D_spot : Int32) (D_number : Nat → Int32) (D_reach : Nat → Int32) (D_edge : Nat → Int32) (D_by : Nat → Int32) (a1 : Int32) (a2 : Int32) (a3 : Int32) {z_r : Int32} {z_D_now : Nat → Int32} {z_D_before : Nat → Int32} {z_D_undoMany : Int32} {z_D_refused : Int32} {z_D_roundMany : Int32} {z_D_roundOver : Int32} {z_D_round : Nat → Int32} {z_D_reach : Nat → Int32} {z_D_edge : Nat → Int32} {z_D_by : Nat → Int32} (hF : p_X7_ask D_levels D_now D_before D_undoMany D_refused D_roundMany D_roundOver D_round D_reach D_edge D_by a1 a2 a3 = some (z_r, z_D_now, z_D_before, z_D_undoMany, z_D_refused, z_D_roundMany, z_D_roundOver, z_D_round, z_D_reach, z_D_edge, z_D_by)) : MJ l yX7_ask cX7_ask 4 (some .int) Rm_X7_ask D (tysU cI cS cII) [.ref (DA 0), .int a1, .int a2, .int a3] (W_X7_ask cI cS cII DA D_length D_text D_levels D_readLevels D_readAsked D_asked D_readKinds D_now D_before D_undoMany D_kept D_keptMany D_refused D_roundMany D_roundOver D_round D_terms D_termLevel D_termAdd D_spot D_number D_reach D_edge D_by) (some z_r) (W_X7_ask cI cS cII DA D_length D_text D_levels D_readLevels D_readAsked D_asked D_readKinds z_D_now z_D_before z_D_undoMany D_kept D_keptMany z_D_refused z_D_roundMany z_D_roundOver z_D_round D_terms D_termLevel D_termAdd D_spot D_number z_D_reach z_D_edge z_D_by) := by
  refine mj_of (own := RX7) (by decide) rfl (Nat.le_of_ble_eq_true rfl) (fun J hJ => ?_)
  show J (W_X7_ask cI cS cII DA D_length D_text D_levels D_readLevels D_readAsked D_asked D_readKinds D_now D_before D_undoMany D_kept D_keptMany D_refused D_roundMany D_roundOver D_round D_terms D_termLevel D_termAdd D_spot D_number D_reach D_edge D_by) 0 [(0, .ref (DA 0)), (1, .int a1), (2, .int a2), (3, .int a3)] []
  unfold p_X7_ask at hF
  refine jj_aload_n hJ dX7_ask_0 0 rfl rfl ?_
  refine jj_iload_n hJ dX7_ask_1 1 rfl rfl ?_
  obtain ⟨r2, h1, hF⟩ := ob hF
  refine jj_callV0 hJ (c_X7_isLevel l D cI cS cII DA D_length D_text D_levels D_readLevels D_readAsked D_asked D_readKinds D_now D_before D_undoMany D_kept D_keptMany D_refused D_roundMany D_roundOver D_round D_terms D_termLevel D_termAdd D_spot D_number D_reach D_edge D_by a1 h1) dX7_ask_2 kw_232 ⟨Nat.le_of_ble_eq_true rfl, Nat.le_of_ble_eq_true rfl, rfl, rfl⟩ kw_231 kw_233 kw_234 0 rfl rfl rfl rfl (Nat.le_of_ble_eq_true rfl) [0, 1, 2, 3, 4, 5, 6, 7, 8, 9, 10, 11, 12, 13] rfl rfl ?_
  refine jj_if_eq hJ 28 dX7_ask_5 rfl (fun c3 => ?_) (fun c3 => ?_)
  · replace hF := ip c3 hF
    refine jj_iconst hJ dX7_ask_28 ic_m1 ?_
    cases Option.some.inj hF
    exact jj_iret hJ dX7_ask_29
  · replace hF := iq c3 hF
    refine jj_iload_n hJ dX7_ask_8 2 rfl rfl ?_
    obtain ⟨r5, h4, hF⟩ := ob hF
    refine jj_callS0 hJ (c_X7_isAdd l D cI cS cII   a2 h4) dX7_ask_9 kw_249 ⟨Nat.le_of_ble_eq_true rfl, Nat.le_of_ble_eq_true rfl, rfl, rfl⟩ kw_250 kw_251 rfl rfl (Nat.le_of_ble_eq_true rfl) [] rfl rfl ?_
    refine jj_if_eq hJ 28 dX7_ask_12 rfl (fun c6 => ?_) (fun c6 => ?_)
    · replace hF := ip c6 hF
      refine jj_iconst hJ dX7_ask_28 ic_m1 ?_
      cases Option.some.inj hF
      exact jj_iret hJ dX7_ask_29
    · replace hF := iq c6 hF
      refine jj_aload_n hJ dX7_ask_15 0 rfl rfl ?_
      refine jj_iload_n hJ dX7_ask_16 3 rfl rfl ?_
      obtain ⟨r8, h7, hF⟩ := ob hF
      refine jj_callV0 hJ (c_X7_isLevel l D cI cS cII DA D_length D_text D_levels D_readLevels D_readAsked D_asked D_readKinds D_now D_before D_undoMany D_kept D_keptMany D_refused D_roundMany D_roundOver D_round D_terms D_termLevel D_termAdd D_spot D_number D_reach D_edge D_by a3 h7) dX7_ask_17 kw_232 ⟨Nat.le_of_ble_eq_true rfl, Nat.le_of_ble_eq_true rfl, rfl, rfl⟩ kw_231 kw_233 kw_234 0 rfl rfl rfl rfl (Nat.le_of_ble_eq_true rfl) [0, 1, 2, 3, 4, 5, 6, 7, 8, 9, 10, 11, 12, 13] rfl rfl ?_
      refine jj_if_eq hJ 28 dX7_ask_20 rfl (fun c9 => ?_) (fun c9 => ?_)
      · replace hF := ip c9 hF
        refine jj_iconst hJ dX7_ask_28 ic_m1 ?_
        cases Option.some.inj hF
        exact jj_iret hJ dX7_ask_29
      · replace hF := iq c9 hF
        refine jj_iload_n hJ dX7_ask_23 1 rfl rfl ?_
        refine jj_iload_n hJ dX7_ask_24 3 rfl rfl ?_
        refine jj_icmp_ne hJ 30 dX7_ask_25 rfl (fun c10 => ?_) (fun c10 => ?_)
        · replace hF := iq c10 hF
          refine jj_aload_n hJ dX7_ask_30 0 rfl rfl ?_
          refine jj_iload_n hJ dX7_ask_31 1 rfl rfl ?_
          refine jj_iload_n hJ dX7_ask_32 2 rfl rfl ?_
          refine jj_iload_n hJ dX7_ask_33 3 rfl rfl ?_
          obtain ⟨⟨r12, g13, g14, g15, g16, g17, g18, g19⟩, h11, hF⟩ := ob hF
          refine jj_callV hJ (c_X7_mayTake l D cI cS cII DA D_length D_text D_levels D_readLevels D_readAsked D_asked D_readKinds D_now D_before D_undoMany D_kept D_keptMany D_refused D_roundMany D_roundOver D_round D_terms D_termLevel D_termAdd D_spot D_number D_reach D_edge D_by a1 a2 a3 h11) dX7_ask_34 kw_215 ⟨Nat.le_of_ble_eq_true rfl, Nat.le_of_ble_eq_true rfl, rfl, rfl⟩ kw_214 kw_216 kw_217 0 rfl rfl rfl rfl (Nat.le_of_ble_eq_true rfl) [0, 1, 2, 3, 4, 5, 6, 7, 8, 9, 10, 11, 12, 13] rfl rfl (wn := (W_X7_ask cI cS cII DA D_length D_text D_levels D_readLevels D_readAsked D_asked D_readKinds D_now D_before D_undoMany D_kept D_keptMany g13 g14 g15 g16 D_terms D_termLevel D_termAdd D_spot D_number g17 g18 g19)) (jNew_sel rfl [some 0, some 1, some 2, some 3, some 4, some 5, some 6, some 7, some 8, some 9, some 10, some 11, some 12, some 13] (by decide +kernel) rfl) ?_
          refine jj_if_ne hJ 43 dX7_ask_37 rfl (fun c20 => ?_) (fun c20 => ?_)
          · replace hF := iq c20 hF
            refine jj_aload_n hJ dX7_ask_43 0 rfl rfl ?_
            refine jj_get hJ lay_X7 dX7_ask_44 0 7 rfl rfl (Nat.le_of_ble_eq_true rfl) kw_178 rfl ?_
            refine jj_bipush hJ dX7_ask_47 bp_10 ?_
            obtain ⟨x21, h22, hF⟩ := ob hF
            refine jj_iald hJ dX7_ask_49 4 0 rfl rfl h22 ?_
            refine jj_bipush hJ dX7_ask_50 bp_16 ?_
            refine jj_icmp_ne hJ 58 dX7_ask_52 rfl (fun c23 => ?_) (fun c23 => ?_)
            · replace hF := iq c23 hF
              refine jj_aload_n hJ dX7_ask_58 0 rfl rfl ?_
              obtain ⟨⟨g25, g26⟩, h24, hF⟩ := ob hF
              refine jj_callV hJ (c_X7_note l D cI cS cII DA D_length D_text D_levels D_readLevels D_readAsked D_asked D_readKinds D_now D_before D_undoMany D_kept D_keptMany g13 g14 g15 g16 D_terms D_termLevel D_termAdd D_spot D_number g17 g18 g19  h24) dX7_ask_59 kw_253 ⟨Nat.le_of_ble_eq_true rfl, Nat.le_of_ble_eq_true rfl, rfl, rfl⟩ kw_252 kw_254 kw_255 0 rfl rfl rfl rfl (Nat.le_of_ble_eq_true rfl) [0, 1, 2, 3, 4, 5, 6, 7, 8, 9, 10, 11, 12, 13] rfl rfl (wn := (W_X7_ask cI cS cII DA D_length D_text D_levels D_readLevels D_readAsked D_asked D_readKinds D_now g25 g26 D_kept D_keptMany g13 g14 g15 g16 D_terms D_termLevel D_termAdd D_spot D_number g17 g18 g19)) (jNew_sel rfl [some 0, some 1, some 2, some 3, some 4, some 5, some 6, some 7, some 8, some 9, some 10, some 11, some 12, some 13] (by decide +kernel) rfl) ?_
              refine jj_aload_n hJ dX7_ask_62 0 rfl rfl ?_
              refine jj_iload_n hJ dX7_ask_63 1 rfl rfl ?_
              refine jj_iload_n hJ dX7_ask_64 2 rfl rfl ?_
              refine jj_iload_n hJ dX7_ask_65 3 rfl rfl ?_
              obtain ⟨g28, h27, hF⟩ := ob hF
              refine jj_callV hJ (c_X7_takeBound l D cI cS cII DA D_length D_text D_levels D_readLevels D_readAsked D_asked D_readKinds D_now g25 g26 D_kept D_keptMany g13 g14 g15 g16 D_terms D_termLevel D_termAdd D_spot D_number g17 g18 g19 a1 a2 a3 h27) dX7_ask_66 kw_219 ⟨Nat.le_of_ble_eq_true rfl, Nat.le_of_ble_eq_true rfl, rfl, rfl⟩ kw_218 kw_220 kw_221 0 rfl rfl rfl rfl (Nat.le_of_ble_eq_true rfl) [0, 1, 2, 3, 4, 5, 6, 7, 8, 9, 10, 11, 12, 13] rfl rfl (wn := (W_X7_ask cI cS cII DA D_length D_text D_levels D_readLevels D_readAsked D_asked D_readKinds g28 g25 g26 D_kept D_keptMany g13 g14 g15 g16 D_terms D_termLevel D_termAdd D_spot D_number g17 g18 g19)) (jNew_sel rfl [some 0, some 1, some 2, some 3, some 4, some 5, some 6, some 7, some 8, some 9, some 10, some 11, some 12, some 13] (by decide +kernel) rfl) ?_
              refine jj_aload_n hJ dX7_ask_69 0 rfl rfl ?_
              refine jj_get hJ lay_X7 dX7_ask_70 0 7 rfl rfl (Nat.le_of_ble_eq_true rfl) kw_178 rfl ?_
              refine jj_bipush hJ dX7_ask_73 bp_10 ?_
              obtain ⟨x29, h30, hF⟩ := ob hF
              refine jj_iald hJ dX7_ask_75 4 0 rfl rfl h30 ?_
              refine jj_iconst hJ dX7_ask_76 ic_1 ?_
              refine jj_isub hJ dX7_ask_77 ?_
              cases Option.some.inj hF
              exact jj_iret hJ dX7_ask_78
            · replace hF := ip c23 hF
              refine jj_bipush hJ dX7_ask_55 bp_m3 ?_
              cases Option.some.inj hF
              exact jj_iret hJ dX7_ask_57
          · replace hF := ip c20 hF
            refine jj_bipush hJ dX7_ask_40 bp_m2 ?_
            cases Option.some.inj hF
            exact jj_iret hJ dX7_ask_42
        · replace hF := ip c10 hF
          refine jj_iconst hJ dX7_ask_28 ic_m1 ?_
          cases Option.some.inj hF
          exact jj_iret hJ dX7_ask_29
section
def W_X7_retract (cI cS cII : ClassId) (DA : Nat → Nat) (D_length : Int32) (D_text : Nat → Int32) (D_levels : Int32) (D_readLevels : Int32) (D_readAsked : Int32) (D_asked : Nat → Int32) (D_readKinds : Nat → Int32) (D_now : Nat → Int32) (D_before : Nat → Int32) (D_undoMany : Int32) (D_kept : Nat → Int32) (D_keptMany : Int32) (D_refused : Int32) (D_roundMany : Int32) (D_roundOver : Int32) (D_round : Nat → Int32) (D_terms : Int32) (D_termLevel : Nat → Int32) (D_termAdd : Nat → Int32) (D_spot : Int32) (D_number : Nat → Int32) (D_reach : Nat → Int32) (D_edge : Nat → Int32) (D_by : Nat → Int32) : va_W := [((DA 0), .inr (7, [.int D_length, .ref (DA 1), .int D_levels, .int D_readLevels, .int D_readAsked, .ref (DA 2), .ref (DA 3), .ref (DA 4), .ref (DA 5), .int D_undoMany, .ref (DA 6), .int D_keptMany, .int D_refused, .int D_roundMany, .int D_roundOver, .ref (DA 7), .int D_terms, .ref (DA 8), .ref (DA 9), .int D_spot, .ref (DA 10), .ref (DA 11), .ref (DA 12), .ref (DA 13)])), ((DA 1), .inl (cI, 200, .inl D_text)), ((DA 2), .inl (cI, 160, .inl D_asked)), ((DA 3), .inl (cI, 10, .inl D_readKinds)), ((DA 4), .inl (cI, 59, .inl D_now)), ((DA 5), .inl (cI, 472, .inl D_before)), ((DA 6), .inl (cI, 118, .inl D_kept)), ((DA 7), .inl (cI, 12, .inl D_round)), ((DA 8), .inl (cI, 6, .inl D_termLevel)), ((DA 9), .inl (cI, 6, .inl D_termAdd)), ((DA 10), .inl (cI, 3, .inl D_number)), ((DA 11), .inl (cI, 100, .inl D_reach)), ((DA 12), .inl (cI, 100, .inl D_edge)), ((DA 13), .inl (cI, 110, .inl D_by))]
abbrev Rm_X7_retract : Room := { frames := 1, cells := 0, slots := 0, locals := 25 }
variable {l : Launch} {D : va_G} {cI cS cII : ClassId} {DA : Nat → Nat} {A : Nat → Prop} {J : jT}
variable {z_r : Int32} {z_D_now : Nat → Int32} {z_D_before : Nat → Int32} {z_D_undoMany : Int32}
def q_X7_retract_38 (a1 : Int32)  : Nat → Int32 → (Nat → Int32) → (Nat → Int32) → Int32 → Option (Int32 × (Nat → Int32) × (Nat → Int32) × Int32)
  | 0, _, _, _, _ => none
  | n + 1, v2, D_now, D_before, D_undoMany => (rd D_now 59 10).bind fun x1 => if x1 ≤ v2 then ((rd D_now 59 10).bind fun x4 => some (x4, D_now, D_before, D_undoMany)) else ((rd D_now 59 ((11 + v2) + 1)).bind fun x6 => (wr D_now 59 (11 + v2) x6).bind fun g8 => (rd g8 59 ((27 + v2) + 1)).bind fun x10 => (wr g8 59 (27 + v2) x10).bind fun g12 => (rd g12 59 ((43 + v2) + 1)).bind fun x14 => (wr g12 59 (43 + v2) x14).bind fun g16 => q_X7_retract_38 a1 n (v2 + 1) g16 D_before D_undoMany)
set_option maxRecDepth 100000 in
theorem w_X7_retract_38 {D_length : Int32} {D_text : Nat → Int32} {D_levels : Int32} {D_readLevels : Int32} {D_readAsked : Int32} {D_asked : Nat → Int32} {D_readKinds : Nat → Int32} {D_kept : Nat → Int32} {D_keptMany : Int32} {D_refused : Int32} {D_roundMany : Int32} {D_roundOver : Int32} {D_round : Nat → Int32} {D_terms : Int32} {D_termLevel : Nat → Int32} {D_termAdd : Nat → Int32} {D_spot : Int32} {D_number : Nat → Int32} {D_reach : Nat → Int32} {D_edge : Nat → Int32} {D_by : Nat → Int32} {a1 : Int32}  (hJ : jJ l cX7_retract 3 D (tysU cI cS cII) RX7 Rm_X7_retract (some .int) A (some z_r) (W_X7_retract cI cS cII DA D_length D_text D_levels D_readLevels D_readAsked D_asked D_readKinds z_D_now z_D_before z_D_undoMany D_kept D_keptMany D_refused D_roundMany D_roundOver D_round D_terms D_termLevel D_termAdd D_spot D_number D_reach D_edge D_by) J)  : ∀ (n : Nat) (v2 : Int32) (D_now : Nat → Int32) (D_before : Nat → Int32) (D_undoMany : Int32), q_X7_retract_38 a1 n v2 D_now D_before D_undoMany = some (z_r, z_D_now, z_D_before, z_D_undoMany) → J (W_X7_retract cI cS cII DA D_length D_text D_levels D_readLevels D_readAsked D_asked D_readKinds D_now D_before D_undoMany D_kept D_keptMany D_refused D_roundMany D_roundOver D_round D_terms D_termLevel D_termAdd D_spot D_number D_reach D_edge D_by) 38 [(2, .int v2), (0, .ref (DA 0))] [] := by
  intro n
  induction n with
  | zero =>
    intro v2 D_now D_before D_undoMany hF
    exact no_some (show (none : Option (Int32 × (Nat → Int32) × (Nat → Int32) × Int32)) = some (z_r, z_D_now, z_D_before, z_D_undoMany) from hF)
  | succ n ih =>
    intro v2 D_now D_before D_undoMany hF
    rw [q_X7_retract_38.eq_2] at hF
    refine jj_iload_n hJ dX7_retract_38 0 rfl rfl ?_
    refine jj_aload_n hJ dX7_retract_39 1 rfl rfl ?_
    refine jj_get hJ lay_X7 dX7_retract_40 0 7 rfl rfl (Nat.le_of_ble_eq_true rfl) kw_178 rfl ?_
    refine jj_bipush hJ dX7_retract_43 bp_10 ?_
    obtain ⟨x1, h2, hF⟩ := ob hF
    refine jj_iald hJ dX7_retract_45 4 0 rfl rfl h2 ?_
    refine jj_icmp_ge hJ 115 dX7_retract_46 rfl (fun c3 => ?_) (fun c3 => ?_)
    · replace hF := ip c3 hF
      refine jj_aload_n hJ dX7_retract_115 1 rfl rfl ?_
      refine jj_get hJ lay_X7 dX7_retract_116 0 7 rfl rfl (Nat.le_of_ble_eq_true rfl) kw_178 rfl ?_
      refine jj_bipush hJ dX7_retract_119 bp_10 ?_
      obtain ⟨x4, h5, hF⟩ := ob hF
      refine jj_iald hJ dX7_retract_121 4 0 rfl rfl h5 ?_
      cases Option.some.inj hF
      exact jj_iret hJ dX7_retract_122
    · replace hF := iq c3 hF
      refine jj_aload_n hJ dX7_retract_49 1 rfl rfl ?_
      refine jj_get hJ lay_X7 dX7_retract_50 0 7 rfl rfl (Nat.le_of_ble_eq_true rfl) kw_178 rfl ?_
      refine jj_bipush hJ dX7_retract_53 bp_11 ?_
      refine jj_iload_n hJ dX7_retract_55 0 rfl rfl ?_
      refine jj_iadd hJ dX7_retract_56 ?_
      refine jj_aload_n hJ dX7_retract_57 1 rfl rfl ?_
      refine jj_get hJ lay_X7 dX7_retract_58 0 7 rfl rfl (Nat.le_of_ble_eq_true rfl) kw_178 rfl ?_
      refine jj_bipush hJ dX7_retract_61 bp_11 ?_
      refine jj_iload_n hJ dX7_retract_63 0 rfl rfl ?_
      refine jj_iadd hJ dX7_retract_64 ?_
      refine jj_iconst hJ dX7_retract_65 ic_1 ?_
      refine jj_iadd hJ dX7_retract_66 ?_
      obtain ⟨x6, h7, hF⟩ := ob hF
      refine jj_iald hJ dX7_retract_67 4 0 rfl rfl h7 ?_
      obtain ⟨g8, h9, hF⟩ := ob hF
      refine jj_iast hJ dX7_retract_68 4 0 rfl rfl h9 (wn := (W_X7_retract cI cS cII DA D_length D_text D_levels D_readLevels D_readAsked D_asked D_readKinds g8 D_before D_undoMany D_kept D_keptMany D_refused D_roundMany D_roundOver D_round D_terms D_termLevel D_termAdd D_spot D_number D_reach D_edge D_by)) rfl ?_
      refine jj_aload_n hJ dX7_retract_69 1 rfl rfl ?_
      refine jj_get hJ lay_X7 dX7_retract_70 0 7 rfl rfl (Nat.le_of_ble_eq_true rfl) kw_178 rfl ?_
      refine jj_bipush hJ dX7_retract_73 bp_27 ?_
      refine jj_iload_n hJ dX7_retract_75 0 rfl rfl ?_
      refine jj_iadd hJ dX7_retract_76 ?_
      refine jj_aload_n hJ dX7_retract_77 1 rfl rfl ?_
      refine jj_get hJ lay_X7 dX7_retract_78 0 7 rfl rfl (Nat.le_of_ble_eq_true rfl) kw_178 rfl ?_
      refine jj_bipush hJ dX7_retract_81 bp_27 ?_
      refine jj_iload_n hJ dX7_retract_83 0 rfl rfl ?_
      refine jj_iadd hJ dX7_retract_84 ?_
      refine jj_iconst hJ dX7_retract_85 ic_1 ?_
      refine jj_iadd hJ dX7_retract_86 ?_
      obtain ⟨x10, h11, hF⟩ := ob hF
      refine jj_iald hJ dX7_retract_87 4 0 rfl rfl h11 ?_
      obtain ⟨g12, h13, hF⟩ := ob hF
      refine jj_iast hJ dX7_retract_88 4 0 rfl rfl h13 (wn := (W_X7_retract cI cS cII DA D_length D_text D_levels D_readLevels D_readAsked D_asked D_readKinds g12 D_before D_undoMany D_kept D_keptMany D_refused D_roundMany D_roundOver D_round D_terms D_termLevel D_termAdd D_spot D_number D_reach D_edge D_by)) rfl ?_
      refine jj_aload_n hJ dX7_retract_89 1 rfl rfl ?_
      refine jj_get hJ lay_X7 dX7_retract_90 0 7 rfl rfl (Nat.le_of_ble_eq_true rfl) kw_178 rfl ?_
      refine jj_bipush hJ dX7_retract_93 bp_43 ?_
      refine jj_iload_n hJ dX7_retract_95 0 rfl rfl ?_
      refine jj_iadd hJ dX7_retract_96 ?_
      refine jj_aload_n hJ dX7_retract_97 1 rfl rfl ?_
      refine jj_get hJ lay_X7 dX7_retract_98 0 7 rfl rfl (Nat.le_of_ble_eq_true rfl) kw_178 rfl ?_
      refine jj_bipush hJ dX7_retract_101 bp_43 ?_
      refine jj_iload_n hJ dX7_retract_103 0 rfl rfl ?_
      refine jj_iadd hJ dX7_retract_104 ?_
      refine jj_iconst hJ dX7_retract_105 ic_1 ?_
      refine jj_iadd hJ dX7_retract_106 ?_
      obtain ⟨x14, h15, hF⟩ := ob hF
      refine jj_iald hJ dX7_retract_107 4 0 rfl rfl h15 ?_
      obtain ⟨g16, h17, hF⟩ := ob hF
      refine jj_iast hJ dX7_retract_108 4 0 rfl rfl h17 (wn := (W_X7_retract cI cS cII DA D_length D_text D_levels D_readLevels D_readAsked D_asked D_readKinds g16 D_before D_undoMany D_kept D_keptMany D_refused D_roundMany D_roundOver D_round D_terms D_termLevel D_termAdd D_spot D_number D_reach D_edge D_by)) rfl ?_
      refine jj_iinc hJ dX7_retract_109 0 rfl (v := v2 + 1) (by rw [ic_1]) (Nat.le_of_ble_eq_true rfl) (lv' := [(2, .int (v2 + 1)), (0, .ref (DA 0))]) rfl ?_
      refine jj_goto hJ 38 dX7_retract_112 rfl ?_
      exact ih (v2 + 1) g16 D_before D_undoMany hF
def p_X7_retract (D_now : Nat → Int32) (D_before : Nat → Int32) (D_undoMany : Int32) (a1 : Int32) : Option (Int32 × (Nat → Int32) × (Nat → Int32) × Int32) := (rd D_now 59 10).bind fun x1 => (p_X7_in ((a1 : Int32).toInt64) 0 ((x1 - 1 : Int32).toInt64)).bind fun r4 => if r4 = 0 then (some ((-1), D_now, D_before, D_undoMany)) else ((p_X7_note D_now D_before D_undoMany).bind fun (g7, g8) => (rd D_now 59 10).bind fun x9 => (wr D_now 59 10 (x9 - 1)).bind fun g11 => q_X7_retract_38 a1 FU a1 g11 g7 g8)
end
set_option maxRecDepth 100000 in
theorem c_X7_retract (l : Launch) (D : va_G) (cI cS cII : ClassId) (DA : Nat → Nat) (D_length : Int32) (D_text : Nat → Int32) (D_levels : Int32) (D_readLevels : Int32) (D_readAsked : Int32) (D_asked : Nat → Int32) (D_readKinds : Nat → Int32) (D_now : Nat → Int32) (D_before : Nat → Int32) (D_undoMany : Int32) (D_kept : Nat → Int32) (D_keptMany : Int32) (D_refused : Int32) (D_roundMany : Int32) (D_roundOver : Int32) (D_round : Nat → Int32) (D_terms : Int32) (D_termLevel : Nat → Int32) (D_termAdd : Nat → Int32) (D_spot : Int32) (D_number : Nat → Int32) (D_reach : Nat → Int32) (D_edge : Nat → Int32) (D_by : Nat → Int32) (a1 : Int32) {z_r : Int32} {z_D_now : Nat → Int32} {z_D_before : Nat → Int32} {z_D_undoMany : Int32} (hF : p_X7_retract D_now D_before D_undoMany a1 = some (z_r, z_D_now, z_D_before, z_D_undoMany)) : MJ l yX7_retract cX7_retract 3 (some .int) Rm_X7_retract D (tysU cI cS cII) [.ref (DA 0), .int a1] (W_X7_retract cI cS cII DA D_length D_text D_levels D_readLevels D_readAsked D_asked D_readKinds D_now D_before D_undoMany D_kept D_keptMany D_refused D_roundMany D_roundOver D_round D_terms D_termLevel D_termAdd D_spot D_number D_reach D_edge D_by) (some z_r) (W_X7_retract cI cS cII DA D_length D_text D_levels D_readLevels D_readAsked D_asked D_readKinds z_D_now z_D_before z_D_undoMany D_kept D_keptMany D_refused D_roundMany D_roundOver D_round D_terms D_termLevel D_termAdd D_spot D_number D_reach D_edge D_by) := by
  refine mj_of (own := RX7) (by decide) rfl (Nat.le_of_ble_eq_true rfl) (fun J hJ => ?_)
  show J (W_X7_retract cI cS cII DA D_length D_text D_levels D_readLevels D_readAsked D_asked D_readKinds D_now D_before D_undoMany D_kept D_keptMany D_refused D_roundMany D_roundOver D_round D_terms D_termLevel D_termAdd D_spot D_number D_reach D_edge D_by) 0 [(0, .ref (DA 0)), (1, .int a1)] []
  unfold p_X7_retract at hF
  refine jj_iload_n hJ dX7_retract_0 1 rfl rfl ?_
  refine jj_i2l hJ dX7_retract_1 ?_
  refine jj_lconst hJ dX7_retract_2 lc_0 ?_
  refine jj_aload_n hJ dX7_retract_3 0 rfl rfl ?_
  refine jj_get hJ lay_X7 dX7_retract_4 0 7 rfl rfl (Nat.le_of_ble_eq_true rfl) kw_178 rfl ?_
  refine jj_bipush hJ dX7_retract_7 bp_10 ?_
  obtain ⟨x1, h2, hF⟩ := ob hF
  refine jj_iald hJ dX7_retract_9 4 0 rfl rfl h2 ?_
  refine jj_iconst hJ dX7_retract_10 ic_1 ?_
  refine jj_isub hJ dX7_retract_11 ?_
  refine jj_i2l hJ dX7_retract_12 ?_
  obtain ⟨r4, h3, hF⟩ := ob hF
  refine jj_callS0 hJ (c_X7_in l D cI cS cII   ((a1 : Int32).toInt64) 0 ((x1 - 1 : Int32).toInt64) h3) dX7_retract_13 kw_140 ⟨Nat.le_of_ble_eq_true rfl, Nat.le_of_ble_eq_true rfl, rfl, rfl⟩ kw_141 kw_142 rfl rfl (Nat.le_of_ble_eq_true rfl) [] rfl rfl ?_
  refine jj_if_ne hJ 21 dX7_retract_16 rfl (fun c5 => ?_) (fun c5 => ?_)
  · replace hF := iq c5 hF
    refine jj_aload_n hJ dX7_retract_21 0 rfl rfl ?_
    obtain ⟨⟨g7, g8⟩, h6, hF⟩ := ob hF
    refine jj_callV hJ (c_X7_note l D cI cS cII DA D_length D_text D_levels D_readLevels D_readAsked D_asked D_readKinds D_now D_before D_undoMany D_kept D_keptMany D_refused D_roundMany D_roundOver D_round D_terms D_termLevel D_termAdd D_spot D_number D_reach D_edge D_by  h6) dX7_retract_22 kw_253 ⟨Nat.le_of_ble_eq_true rfl, Nat.le_of_ble_eq_true rfl, rfl, rfl⟩ kw_252 kw_254 kw_255 0 rfl rfl rfl rfl (Nat.le_of_ble_eq_true rfl) [0, 1, 2, 3, 4, 5, 6, 7, 8, 9, 10, 11, 12, 13] rfl rfl (wn := (W_X7_retract cI cS cII DA D_length D_text D_levels D_readLevels D_readAsked D_asked D_readKinds D_now g7 g8 D_kept D_keptMany D_refused D_roundMany D_roundOver D_round D_terms D_termLevel D_termAdd D_spot D_number D_reach D_edge D_by)) (jNew_sel rfl [some 0, some 1, some 2, some 3, some 4, some 5, some 6, some 7, some 8, some 9, some 10, some 11, some 12, some 13] (by decide +kernel) rfl) ?_
    refine jj_aload_n hJ dX7_retract_25 0 rfl rfl ?_
    refine jj_get hJ lay_X7 dX7_retract_26 0 7 rfl rfl (Nat.le_of_ble_eq_true rfl) kw_178 rfl ?_
    refine jj_bipush hJ dX7_retract_29 bp_10 ?_
    refine jj_dup2 hJ dX7_retract_31 rfl rfl ?_
    obtain ⟨x9, h10, hF⟩ := ob hF
    refine jj_iald hJ dX7_retract_32 4 0 rfl rfl h10 ?_
    refine jj_iconst hJ dX7_retract_33 ic_1 ?_
    refine jj_isub hJ dX7_retract_34 ?_
    obtain ⟨g11, h12, hF⟩ := ob hF
    refine jj_iast hJ dX7_retract_35 4 0 rfl rfl h12 (wn := (W_X7_retract cI cS cII DA D_length D_text D_levels D_readLevels D_readAsked D_asked D_readKinds g11 g7 g8 D_kept D_keptMany D_refused D_roundMany D_roundOver D_round D_terms D_termLevel D_termAdd D_spot D_number D_reach D_edge D_by)) rfl ?_
    refine jj_iload_n hJ dX7_retract_36 1 rfl rfl ?_
    refine jj_istore_n hJ dX7_retract_37 rfl (Nat.le_of_ble_eq_true rfl) (lv' := [(2, .int a1), (0, .ref (DA 0)), (1, .int a1)]) rfl ?_
    refine jj_lv hJ [0, 1] (lv' := [(2, .int a1), (0, .ref (DA 0))]) rfl ?_
    exact w_X7_retract_38 hJ  FU a1 g11 g7 g8 hF
  · replace hF := ip c5 hF
    refine jj_iconst hJ dX7_retract_19 ic_m1 ?_
    cases Option.some.inj hF
    exact jj_iret hJ dX7_retract_20
section
def W_X7_rename (cI cS cII : ClassId) (DA : Nat → Nat) (D_length : Int32) (D_text : Nat → Int32) (D_levels : Int32) (D_readLevels : Int32) (D_readAsked : Int32) (D_asked : Nat → Int32) (D_readKinds : Nat → Int32) (D_now : Nat → Int32) (D_before : Nat → Int32) (D_undoMany : Int32) (D_kept : Nat → Int32) (D_keptMany : Int32) (D_refused : Int32) (D_roundMany : Int32) (D_roundOver : Int32) (D_round : Nat → Int32) (D_terms : Int32) (D_termLevel : Nat → Int32) (D_termAdd : Nat → Int32) (D_spot : Int32) (D_number : Nat → Int32) (D_reach : Nat → Int32) (D_edge : Nat → Int32) (D_by : Nat → Int32) : va_W := [((DA 0), .inr (7, [.int D_length, .ref (DA 1), .int D_levels, .int D_readLevels, .int D_readAsked, .ref (DA 2), .ref (DA 3), .ref (DA 4), .ref (DA 5), .int D_undoMany, .ref (DA 6), .int D_keptMany, .int D_refused, .int D_roundMany, .int D_roundOver, .ref (DA 7), .int D_terms, .ref (DA 8), .ref (DA 9), .int D_spot, .ref (DA 10), .ref (DA 11), .ref (DA 12), .ref (DA 13)])), ((DA 1), .inl (cI, 200, .inl D_text)), ((DA 2), .inl (cI, 160, .inl D_asked)), ((DA 3), .inl (cI, 10, .inl D_readKinds)), ((DA 4), .inl (cI, 59, .inl D_now)), ((DA 5), .inl (cI, 472, .inl D_before)), ((DA 6), .inl (cI, 118, .inl D_kept)), ((DA 7), .inl (cI, 12, .inl D_round)), ((DA 8), .inl (cI, 6, .inl D_termLevel)), ((DA 9), .inl (cI, 6, .inl D_termAdd)), ((DA 10), .inl (cI, 3, .inl D_number)), ((DA 11), .inl (cI, 100, .inl D_reach)), ((DA 12), .inl (cI, 100, .inl D_edge)), ((DA 13), .inl (cI, 110, .inl D_by))]
abbrev Rm_X7_rename : Room := { frames := 2, cells := 0, slots := 0, locals := 46 }
variable {l : Launch} {D : va_G} {cI cS cII : ClassId} {DA : Nat → Nat} {A : Nat → Prop} {J : jT}
variable {z_r : Int32} {z_D_now : Nat → Int32} {z_D_before : Nat → Int32} {z_D_undoMany : Int32}
def p_X7_rename (D_levels : Int32) (D_now : Nat → Int32) (D_before : Nat → Int32) (D_undoMany : Int32) (a1 : Int32) (a2 : Int32) : Option (Int32 × (Nat → Int32) × (Nat → Int32) × Int32) := (p_X7_isLevel D_levels a1).bind fun r2 => if r2 = 0 then (some ((-1), D_now, D_before, D_undoMany)) else ((p_X7_in ((a2 : Int32).toInt64) 0 ((3))).bind fun r5 => if r5 = 0 then (some ((-1), D_now, D_before, D_undoMany)) else ((rd D_now 59 a1).bind fun x7 => if x7 = a2 then (some ((-2), D_now, D_before, D_undoMany)) else ((p_X7_note D_now D_before D_undoMany).bind fun (g11, g12) => (wr D_now 59 a1 a2).bind fun g13 => some (x7, g13, g11, g12))))
end
set_option maxRecDepth 100000 in
theorem c_X7_rename (l : Launch) (D : va_G) (cI cS cII : ClassId) (DA : Nat → Nat) (D_length : Int32) (D_text : Nat → Int32) (D_levels : Int32) (D_readLevels : Int32) (D_readAsked : Int32) (D_asked : Nat → Int32) (D_readKinds : Nat → Int32) (D_now : Nat → Int32) (D_before : Nat → Int32) (D_undoMany : Int32) (D_kept : Nat → Int32) (D_keptMany : Int32) (D_refused : Int32) (D_roundMany : Int32) (D_roundOver : Int32) (D_round : Nat → Int32) (D_terms : Int32) (D_termLevel : Nat → Int32) (D_termAdd : Nat → Int32) (D_spot : Int32) (D_number : Nat → Int32) (D_reach : Nat → Int32) (D_edge : Nat → Int32) (D_by : Nat → Int32) (a1 : Int32) (a2 : Int32) {z_r : Int32} {z_D_now : Nat → Int32} {z_D_before : Nat → Int32} {z_D_undoMany : Int32} (hF : p_X7_rename D_levels D_now D_before D_undoMany a1 a2 = some (z_r, z_D_now, z_D_before, z_D_undoMany)) : MJ l yX7_rename cX7_rename 4 (some .int) Rm_X7_rename D (tysU cI cS cII) [.ref (DA 0), .int a1, .int a2] (W_X7_rename cI cS cII DA D_length D_text D_levels D_readLevels D_readAsked D_asked D_readKinds D_now D_before D_undoMany D_kept D_keptMany D_refused D_roundMany D_roundOver D_round D_terms D_termLevel D_termAdd D_spot D_number D_reach D_edge D_by) (some z_r) (W_X7_rename cI cS cII DA D_length D_text D_levels D_readLevels D_readAsked D_asked D_readKinds z_D_now z_D_before z_D_undoMany D_kept D_keptMany D_refused D_roundMany D_roundOver D_round D_terms D_termLevel D_termAdd D_spot D_number D_reach D_edge D_by) := by
  refine mj_of (own := RX7) (by decide) rfl (Nat.le_of_ble_eq_true rfl) (fun J hJ => ?_)
  show J (W_X7_rename cI cS cII DA D_length D_text D_levels D_readLevels D_readAsked D_asked D_readKinds D_now D_before D_undoMany D_kept D_keptMany D_refused D_roundMany D_roundOver D_round D_terms D_termLevel D_termAdd D_spot D_number D_reach D_edge D_by) 0 [(0, .ref (DA 0)), (1, .int a1), (2, .int a2)] []
  unfold p_X7_rename at hF
  refine jj_aload_n hJ dX7_rename_0 0 rfl rfl ?_
  refine jj_iload_n hJ dX7_rename_1 1 rfl rfl ?_
  obtain ⟨r2, h1, hF⟩ := ob hF
  refine jj_callV0 hJ (c_X7_isLevel l D cI cS cII DA D_length D_text D_levels D_readLevels D_readAsked D_asked D_readKinds D_now D_before D_undoMany D_kept D_keptMany D_refused D_roundMany D_roundOver D_round D_terms D_termLevel D_termAdd D_spot D_number D_reach D_edge D_by a1 h1) dX7_rename_2 kw_232 ⟨Nat.le_of_ble_eq_true rfl, Nat.le_of_ble_eq_true rfl, rfl, rfl⟩ kw_231 kw_233 kw_234 0 rfl rfl rfl rfl (Nat.le_of_ble_eq_true rfl) [0, 1, 2, 3, 4, 5, 6, 7, 8, 9, 10, 11, 12, 13] rfl rfl ?_
  refine jj_if_eq hJ 20 dX7_rename_5 rfl (fun c3 => ?_) (fun c3 => ?_)
  · replace hF := ip c3 hF
    refine jj_iconst hJ dX7_rename_20 ic_m1 ?_
    cases Option.some.inj hF
    exact jj_iret hJ dX7_rename_21
  · replace hF := iq c3 hF
    refine jj_iload_n hJ dX7_rename_8 2 rfl rfl ?_
    refine jj_i2l hJ dX7_rename_9 ?_
    refine jj_lconst hJ dX7_rename_10 lc_0 ?_
    refine jj_ldc2 hJ dX7_rename_11 kw_256 ?_
    obtain ⟨r5, h4, hF⟩ := ob hF
    refine jj_callS0 hJ (c_X7_in l D cI cS cII   ((a2 : Int32).toInt64) 0 ((3)) h4) dX7_rename_14 kw_140 ⟨Nat.le_of_ble_eq_true rfl, Nat.le_of_ble_eq_true rfl, rfl, rfl⟩ kw_141 kw_142 rfl rfl (Nat.le_of_ble_eq_true rfl) [] rfl rfl ?_
    refine jj_if_ne hJ 22 dX7_rename_17 rfl (fun c6 => ?_) (fun c6 => ?_)
    · replace hF := iq c6 hF
      refine jj_aload_n hJ dX7_rename_22 0 rfl rfl ?_
      refine jj_get hJ lay_X7 dX7_rename_23 0 7 rfl rfl (Nat.le_of_ble_eq_true rfl) kw_178 rfl ?_
      refine jj_iload_n hJ dX7_rename_26 1 rfl rfl ?_
      obtain ⟨x7, h8, hF⟩ := ob hF
      refine jj_iald hJ dX7_rename_27 4 0 rfl rfl h8 ?_
      refine jj_istore_n hJ dX7_rename_28 rfl (Nat.le_of_ble_eq_true rfl) (lv' := [(3, .int x7), (0, .ref (DA 0)), (1, .int a1), (2, .int a2)]) rfl ?_
      refine jj_iload_n hJ dX7_rename_29 0 rfl rfl ?_
      refine jj_iload_n hJ dX7_rename_30 3 rfl rfl ?_
      refine jj_icmp_ne hJ 37 dX7_rename_31 rfl (fun c9 => ?_) (fun c9 => ?_)
      · replace hF := iq c9 hF
        refine jj_aload_n hJ dX7_rename_37 1 rfl rfl ?_
        obtain ⟨⟨g11, g12⟩, h10, hF⟩ := ob hF
        refine jj_callV hJ (c_X7_note l D cI cS cII DA D_length D_text D_levels D_readLevels D_readAsked D_asked D_readKinds D_now D_before D_undoMany D_kept D_keptMany D_refused D_roundMany D_roundOver D_round D_terms D_termLevel D_termAdd D_spot D_number D_reach D_edge D_by  h10) dX7_rename_38 kw_253 ⟨Nat.le_of_ble_eq_true rfl, Nat.le_of_ble_eq_true rfl, rfl, rfl⟩ kw_252 kw_254 kw_255 0 rfl rfl rfl rfl (Nat.le_of_ble_eq_true rfl) [0, 1, 2, 3, 4, 5, 6, 7, 8, 9, 10, 11, 12, 13] rfl rfl (wn := (W_X7_rename cI cS cII DA D_length D_text D_levels D_readLevels D_readAsked D_asked D_readKinds D_now g11 g12 D_kept D_keptMany D_refused D_roundMany D_roundOver D_round D_terms D_termLevel D_termAdd D_spot D_number D_reach D_edge D_by)) (jNew_sel rfl [some 0, some 1, some 2, some 3, some 4, some 5, some 6, some 7, some 8, some 9, some 10, some 11, some 12, some 13] (by decide +kernel) rfl) ?_
        refine jj_aload_n hJ dX7_rename_41 1 rfl rfl ?_
        refine jj_get hJ lay_X7 dX7_rename_42 0 7 rfl rfl (Nat.le_of_ble_eq_true rfl) kw_178 rfl ?_
        refine jj_iload_n hJ dX7_rename_45 2 rfl rfl ?_
        refine jj_iload_n hJ dX7_rename_46 3 rfl rfl ?_
        obtain ⟨g13, h14, hF⟩ := ob hF
        refine jj_iast hJ dX7_rename_47 4 0 rfl rfl h14 (wn := (W_X7_rename cI cS cII DA D_length D_text D_levels D_readLevels D_readAsked D_asked D_readKinds g13 g11 g12 D_kept D_keptMany D_refused D_roundMany D_roundOver D_round D_terms D_termLevel D_termAdd D_spot D_number D_reach D_edge D_by)) rfl ?_
        refine jj_iload_n hJ dX7_rename_48 0 rfl rfl ?_
        cases Option.some.inj hF
        exact jj_iret hJ dX7_rename_49
      · replace hF := ip c9 hF
        refine jj_bipush hJ dX7_rename_34 bp_m2 ?_
        cases Option.some.inj hF
        exact jj_iret hJ dX7_rename_36
    · replace hF := ip c6 hF
      refine jj_iconst hJ dX7_rename_20 ic_m1 ?_
      cases Option.some.inj hF
      exact jj_iret hJ dX7_rename_21
section
def W_X7_undo (cI cS cII : ClassId) (DA : Nat → Nat) (D_length : Int32) (D_text : Nat → Int32) (D_levels : Int32) (D_readLevels : Int32) (D_readAsked : Int32) (D_asked : Nat → Int32) (D_readKinds : Nat → Int32) (D_now : Nat → Int32) (D_before : Nat → Int32) (D_undoMany : Int32) (D_kept : Nat → Int32) (D_keptMany : Int32) (D_refused : Int32) (D_roundMany : Int32) (D_roundOver : Int32) (D_round : Nat → Int32) (D_terms : Int32) (D_termLevel : Nat → Int32) (D_termAdd : Nat → Int32) (D_spot : Int32) (D_number : Nat → Int32) (D_reach : Nat → Int32) (D_edge : Nat → Int32) (D_by : Nat → Int32) : va_W := [((DA 0), .inr (7, [.int D_length, .ref (DA 1), .int D_levels, .int D_readLevels, .int D_readAsked, .ref (DA 2), .ref (DA 3), .ref (DA 4), .ref (DA 5), .int D_undoMany, .ref (DA 6), .int D_keptMany, .int D_refused, .int D_roundMany, .int D_roundOver, .ref (DA 7), .int D_terms, .ref (DA 8), .ref (DA 9), .int D_spot, .ref (DA 10), .ref (DA 11), .ref (DA 12), .ref (DA 13)])), ((DA 1), .inl (cI, 200, .inl D_text)), ((DA 2), .inl (cI, 160, .inl D_asked)), ((DA 3), .inl (cI, 10, .inl D_readKinds)), ((DA 4), .inl (cI, 59, .inl D_now)), ((DA 5), .inl (cI, 472, .inl D_before)), ((DA 6), .inl (cI, 118, .inl D_kept)), ((DA 7), .inl (cI, 12, .inl D_round)), ((DA 8), .inl (cI, 6, .inl D_termLevel)), ((DA 9), .inl (cI, 6, .inl D_termAdd)), ((DA 10), .inl (cI, 3, .inl D_number)), ((DA 11), .inl (cI, 100, .inl D_reach)), ((DA 12), .inl (cI, 100, .inl D_edge)), ((DA 13), .inl (cI, 110, .inl D_by))]
abbrev Rm_X7_undo : Room := { frames := 0, cells := 0, slots := 0, locals := 0 }
variable {l : Launch} {D : va_G} {cI cS cII : ClassId} {DA : Nat → Nat} {A : Nat → Prop} {J : jT}
variable {z_r : Int32} {z_D_now : Nat → Int32} {z_D_undoMany : Int32}
def q_X7_undo_22 (D_before : Nat → Int32)  : Nat → Int32 → (Nat → Int32) → Int32 → Option (Int32 × (Nat → Int32) × Int32)
  | 0, _, _, _ => none
  | n + 1, v1, D_now, D_undoMany => if 59 ≤ v1 then (some (D_undoMany, D_now, D_undoMany)) else ((rd D_before 472 ((59 * D_undoMany) + v1)).bind fun x2 => (wr D_now 59 v1 x2).bind fun g4 => q_X7_undo_22 D_before n (v1 + 1) g4 D_undoMany)
set_option maxRecDepth 100000 in
theorem w_X7_undo_22 {D_length : Int32} {D_text : Nat → Int32} {D_levels : Int32} {D_readLevels : Int32} {D_readAsked : Int32} {D_asked : Nat → Int32} {D_readKinds : Nat → Int32} {D_before : Nat → Int32} {D_kept : Nat → Int32} {D_keptMany : Int32} {D_refused : Int32} {D_roundMany : Int32} {D_roundOver : Int32} {D_round : Nat → Int32} {D_terms : Int32} {D_termLevel : Nat → Int32} {D_termAdd : Nat → Int32} {D_spot : Int32} {D_number : Nat → Int32} {D_reach : Nat → Int32} {D_edge : Nat → Int32} {D_by : Nat → Int32}   (hJ : jJ l cX7_undo 2 D (tysU cI cS cII) RX7 Rm_X7_undo (some .int) A (some z_r) (W_X7_undo cI cS cII DA D_length D_text D_levels D_readLevels D_readAsked D_asked D_readKinds z_D_now D_before z_D_undoMany D_kept D_keptMany D_refused D_roundMany D_roundOver D_round D_terms D_termLevel D_termAdd D_spot D_number D_reach D_edge D_by) J)  : ∀ (n : Nat) (v1 : Int32) (D_now : Nat → Int32) (D_undoMany : Int32), q_X7_undo_22 D_before n v1 D_now D_undoMany = some (z_r, z_D_now, z_D_undoMany) → J (W_X7_undo cI cS cII DA D_length D_text D_levels D_readLevels D_readAsked D_asked D_readKinds D_now D_before D_undoMany D_kept D_keptMany D_refused D_roundMany D_roundOver D_round D_terms D_termLevel D_termAdd D_spot D_number D_reach D_edge D_by) 22 [(1, .int v1), (0, .ref (DA 0))] [] := by
  intro n
  induction n with
  | zero =>
    intro v1 D_now D_undoMany hF
    exact no_some (show (none : Option (Int32 × (Nat → Int32) × Int32)) = some (z_r, z_D_now, z_D_undoMany) from hF)
  | succ n ih =>
    intro v1 D_now D_undoMany hF
    rw [q_X7_undo_22.eq_2] at hF
    refine jj_iload_n hJ dX7_undo_22 0 rfl rfl ?_
    refine jj_bipush hJ dX7_undo_23 bp_59 ?_
    refine jj_icmp_ge hJ 54 dX7_undo_25 rfl (fun c1 => ?_) (fun c1 => ?_)
    · replace hF := ip c1 hF
      refine jj_aload_n hJ dX7_undo_54 1 rfl rfl ?_
      refine jj_get hJ lay_X7 dX7_undo_55 0 9 rfl rfl (Nat.le_of_ble_eq_true rfl) kw_223 rfl ?_
      cases Option.some.inj hF
      exact jj_iret hJ dX7_undo_58
    · replace hF := iq c1 hF
      refine jj_aload_n hJ dX7_undo_28 1 rfl rfl ?_
      refine jj_get hJ lay_X7 dX7_undo_29 0 7 rfl rfl (Nat.le_of_ble_eq_true rfl) kw_178 rfl ?_
      refine jj_iload_n hJ dX7_undo_32 0 rfl rfl ?_
      refine jj_aload_n hJ dX7_undo_33 1 rfl rfl ?_
      refine jj_get hJ lay_X7 dX7_undo_34 0 8 rfl rfl (Nat.le_of_ble_eq_true rfl) kw_248 rfl ?_
      refine jj_bipush hJ dX7_undo_37 bp_59 ?_
      refine jj_aload_n hJ dX7_undo_39 1 rfl rfl ?_
      refine jj_get hJ lay_X7 dX7_undo_40 0 9 rfl rfl (Nat.le_of_ble_eq_true rfl) kw_223 rfl ?_
      refine jj_imul hJ dX7_undo_43 ?_
      refine jj_iload_n hJ dX7_undo_44 0 rfl rfl ?_
      refine jj_iadd hJ dX7_undo_45 ?_
      obtain ⟨x2, h3, hF⟩ := ob hF
      refine jj_iald hJ dX7_undo_46 5 0 rfl rfl h3 ?_
      obtain ⟨g4, h5, hF⟩ := ob hF
      refine jj_iast hJ dX7_undo_47 4 0 rfl rfl h5 (wn := (W_X7_undo cI cS cII DA D_length D_text D_levels D_readLevels D_readAsked D_asked D_readKinds g4 D_before D_undoMany D_kept D_keptMany D_refused D_roundMany D_roundOver D_round D_terms D_termLevel D_termAdd D_spot D_number D_reach D_edge D_by)) rfl ?_
      refine jj_iinc hJ dX7_undo_48 0 rfl (v := v1 + 1) (by rw [ic_1]) (Nat.le_of_ble_eq_true rfl) (lv' := [(1, .int (v1 + 1)), (0, .ref (DA 0))]) rfl ?_
      refine jj_goto hJ 22 dX7_undo_51 rfl ?_
      exact ih (v1 + 1) g4 D_undoMany hF
def p_X7_undo (D_now : Nat → Int32) (D_before : Nat → Int32) (D_undoMany : Int32) : Option (Int32 × (Nat → Int32) × Int32) := if D_undoMany = 0 then (some ((-2), D_now, D_undoMany)) else (q_X7_undo_22 D_before FU 0 D_now (D_undoMany - 1))
end
set_option maxRecDepth 100000 in
theorem c_X7_undo (l : Launch) (D : va_G) (cI cS cII : ClassId) (DA : Nat → Nat) (D_length : Int32) (D_text : Nat → Int32) (D_levels : Int32) (D_readLevels : Int32) (D_readAsked : Int32) (D_asked : Nat → Int32) (D_readKinds : Nat → Int32) (D_now : Nat → Int32) (D_before : Nat → Int32) (D_undoMany : Int32) (D_kept : Nat → Int32) (D_keptMany : Int32) (D_refused : Int32) (D_roundMany : Int32) (D_roundOver : Int32) (D_round : Nat → Int32) (D_terms : Int32) (D_termLevel : Nat → Int32) (D_termAdd : Nat → Int32) (D_spot : Int32) (D_number : Nat → Int32) (D_reach : Nat → Int32) (D_edge : Nat → Int32) (D_by : Nat → Int32)  {z_r : Int32} {z_D_now : Nat → Int32} {z_D_undoMany : Int32} (hF : p_X7_undo D_now D_before D_undoMany = some (z_r, z_D_now, z_D_undoMany)) : MJ l yX7_undo cX7_undo 2 (some .int) Rm_X7_undo D (tysU cI cS cII) [.ref (DA 0)] (W_X7_undo cI cS cII DA D_length D_text D_levels D_readLevels D_readAsked D_asked D_readKinds D_now D_before D_undoMany D_kept D_keptMany D_refused D_roundMany D_roundOver D_round D_terms D_termLevel D_termAdd D_spot D_number D_reach D_edge D_by) (some z_r) (W_X7_undo cI cS cII DA D_length D_text D_levels D_readLevels D_readAsked D_asked D_readKinds z_D_now D_before z_D_undoMany D_kept D_keptMany D_refused D_roundMany D_roundOver D_round D_terms D_termLevel D_termAdd D_spot D_number D_reach D_edge D_by) := by
  refine mj_of (own := RX7) (by decide) rfl (Nat.le_of_ble_eq_true rfl) (fun J hJ => ?_)
  show J (W_X7_undo cI cS cII DA D_length D_text D_levels D_readLevels D_readAsked D_asked D_readKinds D_now D_before D_undoMany D_kept D_keptMany D_refused D_roundMany D_roundOver D_round D_terms D_termLevel D_termAdd D_spot D_number D_reach D_edge D_by) 0 [(0, .ref (DA 0))] []
  unfold p_X7_undo at hF
  refine jj_aload_n hJ dX7_undo_0 0 rfl rfl ?_
  refine jj_get hJ lay_X7 dX7_undo_1 0 9 rfl rfl (Nat.le_of_ble_eq_true rfl) kw_223 rfl ?_
  refine jj_if_ne hJ 10 dX7_undo_4 rfl (fun c1 => ?_) (fun c1 => ?_)
  · replace hF := iq c1 hF
    refine jj_aload_n hJ dX7_undo_10 0 rfl rfl ?_
    refine jj_dup hJ dX7_undo_11 rfl ?_
    refine jj_get hJ lay_X7 dX7_undo_12 0 9 rfl rfl (Nat.le_of_ble_eq_true rfl) kw_223 rfl ?_
    refine jj_iconst hJ dX7_undo_15 ic_1 ?_
    refine jj_isub hJ dX7_undo_16 ?_
    refine jj_puti hJ lay_X7 tyX7 tyX7_ok nmX7 dX7_undo_17 0 9 rfl rfl (Nat.le_of_ble_eq_true rfl) kw_223 rfl rfl (Nat.le_of_ble_eq_true rfl) (wn := (W_X7_undo cI cS cII DA D_length D_text D_levels D_readLevels D_readAsked D_asked D_readKinds D_now D_before (D_undoMany - 1) D_kept D_keptMany D_refused D_roundMany D_roundOver D_round D_terms D_termLevel D_termAdd D_spot D_number D_reach D_edge D_by)) rfl ?_
    refine jj_iconst hJ dX7_undo_20 ic_0 ?_
    refine jj_istore_n hJ dX7_undo_21 rfl (Nat.le_of_ble_eq_true rfl) (lv' := [(1, .int 0), (0, .ref (DA 0))]) rfl ?_
    exact w_X7_undo_22 hJ  FU 0 D_now (D_undoMany - 1) hF
  · replace hF := ip c1 hF
    refine jj_bipush hJ dX7_undo_7 bp_m2 ?_
    cases Option.some.inj hF
    exact jj_iret hJ dX7_undo_9
section
def W_X7_round (cI cS cII : ClassId) (DA : Nat → Nat) (D_length : Int32) (D_text : Nat → Int32) (D_levels : Int32) (D_readLevels : Int32) (D_readAsked : Int32) (D_asked : Nat → Int32) (D_readKinds : Nat → Int32) (D_now : Nat → Int32) (D_before : Nat → Int32) (D_undoMany : Int32) (D_kept : Nat → Int32) (D_keptMany : Int32) (D_refused : Int32) (D_roundMany : Int32) (D_roundOver : Int32) (D_round : Nat → Int32) (D_terms : Int32) (D_termLevel : Nat → Int32) (D_termAdd : Nat → Int32) (D_spot : Int32) (D_number : Nat → Int32) (D_reach : Nat → Int32) (D_edge : Nat → Int32) (D_by : Nat → Int32) : va_W := [((DA 0), .inr (7, [.int D_length, .ref (DA 1), .int D_levels, .int D_readLevels, .int D_readAsked, .ref (DA 2), .ref (DA 3), .ref (DA 4), .ref (DA 5), .int D_undoMany, .ref (DA 6), .int D_keptMany, .int D_refused, .int D_roundMany, .int D_roundOver, .ref (DA 7), .int D_terms, .ref (DA 8), .ref (DA 9), .int D_spot, .ref (DA 10), .ref (DA 11), .ref (DA 12), .ref (DA 13)])), ((DA 1), .inl (cI, 200, .inl D_text)), ((DA 2), .inl (cI, 160, .inl D_asked)), ((DA 3), .inl (cI, 10, .inl D_readKinds)), ((DA 4), .inl (cI, 59, .inl D_now)), ((DA 5), .inl (cI, 472, .inl D_before)), ((DA 6), .inl (cI, 118, .inl D_kept)), ((DA 7), .inl (cI, 12, .inl D_round)), ((DA 8), .inl (cI, 6, .inl D_termLevel)), ((DA 9), .inl (cI, 6, .inl D_termAdd)), ((DA 10), .inl (cI, 3, .inl D_number)), ((DA 11), .inl (cI, 100, .inl D_reach)), ((DA 12), .inl (cI, 100, .inl D_edge)), ((DA 13), .inl (cI, 110, .inl D_by))]
abbrev Rm_X7_round : Room := { frames := 1, cells := 0, slots := 0, locals := 25 }
variable {l : Launch} {D : va_G} {cI cS cII : ClassId} {DA : Nat → Nat} {A : Nat → Prop} {J : jT}
variable {z_r : Int32}
def p_X7_round (D_roundMany : Int32) (D_roundOver : Int32) (D_round : Nat → Int32) (a1 : Int32) : Option (Int32) := (p_X7_in ((a1 : Int32).toInt64) ((-1)) ((10))).bind fun r2 => if r2 = 0 then (some ((-1))) else (if D_roundMany = 0 then (some ((-4))) else (if 0 ≤ a1 then (if a1 = 10 then (some D_roundOver) else (if D_roundMany ≤ a1 then (some ((-4))) else ((rd D_round 12 a1).bind fun x8 => some x8))) else (some D_roundMany)))
end
set_option maxRecDepth 100000 in
theorem c_X7_round (l : Launch) (D : va_G) (cI cS cII : ClassId) (DA : Nat → Nat) (D_length : Int32) (D_text : Nat → Int32) (D_levels : Int32) (D_readLevels : Int32) (D_readAsked : Int32) (D_asked : Nat → Int32) (D_readKinds : Nat → Int32) (D_now : Nat → Int32) (D_before : Nat → Int32) (D_undoMany : Int32) (D_kept : Nat → Int32) (D_keptMany : Int32) (D_refused : Int32) (D_roundMany : Int32) (D_roundOver : Int32) (D_round : Nat → Int32) (D_terms : Int32) (D_termLevel : Nat → Int32) (D_termAdd : Nat → Int32) (D_spot : Int32) (D_number : Nat → Int32) (D_reach : Nat → Int32) (D_edge : Nat → Int32) (D_by : Nat → Int32) (a1 : Int32) {z_r : Int32} (hF : p_X7_round D_roundMany D_roundOver D_round a1 = some z_r) : MJ l yX7_round cX7_round 2 (some .int) Rm_X7_round D (tysU cI cS cII) [.ref (DA 0), .int a1] (W_X7_round cI cS cII DA D_length D_text D_levels D_readLevels D_readAsked D_asked D_readKinds D_now D_before D_undoMany D_kept D_keptMany D_refused D_roundMany D_roundOver D_round D_terms D_termLevel D_termAdd D_spot D_number D_reach D_edge D_by) (some z_r) (W_X7_round cI cS cII DA D_length D_text D_levels D_readLevels D_readAsked D_asked D_readKinds D_now D_before D_undoMany D_kept D_keptMany D_refused D_roundMany D_roundOver D_round D_terms D_termLevel D_termAdd D_spot D_number D_reach D_edge D_by) := by
  refine mj_of (own := RX7) (by decide) rfl (Nat.le_of_ble_eq_true rfl) (fun J hJ => ?_)
  show J (W_X7_round cI cS cII DA D_length D_text D_levels D_readLevels D_readAsked D_asked D_readKinds D_now D_before D_undoMany D_kept D_keptMany D_refused D_roundMany D_roundOver D_round D_terms D_termLevel D_termAdd D_spot D_number D_reach D_edge D_by) 0 [(0, .ref (DA 0)), (1, .int a1)] []
  unfold p_X7_round at hF
  refine jj_iload_n hJ dX7_round_0 1 rfl rfl ?_
  refine jj_i2l hJ dX7_round_1 ?_
  refine jj_ldc2 hJ dX7_round_2 kw_257 ?_
  refine jj_ldc2 hJ dX7_round_5 kw_258 ?_
  obtain ⟨r2, h1, hF⟩ := ob hF
  refine jj_callS0 hJ (c_X7_in l D cI cS cII   ((a1 : Int32).toInt64) ((-1)) ((10)) h1) dX7_round_8 kw_140 ⟨Nat.le_of_ble_eq_true rfl, Nat.le_of_ble_eq_true rfl, rfl, rfl⟩ kw_141 kw_142 rfl rfl (Nat.le_of_ble_eq_true rfl) [] rfl rfl ?_
  refine jj_if_ne hJ 16 dX7_round_11 rfl (fun c3 => ?_) (fun c3 => ?_)
  · replace hF := iq c3 hF
    refine jj_aload_n hJ dX7_round_16 0 rfl rfl ?_
    refine jj_get hJ lay_X7 dX7_round_17 0 13 rfl rfl (Nat.le_of_ble_eq_true rfl) kw_195 rfl ?_
    refine jj_if_ne hJ 26 dX7_round_20 rfl (fun c4 => ?_) (fun c4 => ?_)
    · replace hF := iq c4 hF
      refine jj_iload_n hJ dX7_round_26 1 rfl rfl ?_
      refine jj_if_ge hJ 37 dX7_round_27 rfl (fun c5 => ?_) (fun c5 => ?_)
      · replace hF := ip c5 hF
        refine jj_iload_n hJ dX7_round_37 1 rfl rfl ?_
        refine jj_bipush hJ dX7_round_38 bp_10 ?_
        refine jj_icmp_ne hJ 50 dX7_round_40 rfl (fun c6 => ?_) (fun c6 => ?_)
        · replace hF := iq c6 hF
          refine jj_iload_n hJ dX7_round_50 1 rfl rfl ?_
          refine jj_aload_n hJ dX7_round_51 0 rfl rfl ?_
          refine jj_get hJ lay_X7 dX7_round_52 0 13 rfl rfl (Nat.le_of_ble_eq_true rfl) kw_195 rfl ?_
          refine jj_icmp_ge hJ 67 dX7_round_55 rfl (fun c7 => ?_) (fun c7 => ?_)
          · replace hF := ip c7 hF
            refine jj_bipush hJ dX7_round_67 bp_m4 ?_
            cases Option.some.inj hF
            exact jj_iret hJ dX7_round_69
          · replace hF := iq c7 hF
            refine jj_aload_n hJ dX7_round_58 0 rfl rfl ?_
            refine jj_get hJ lay_X7 dX7_round_59 0 15 rfl rfl (Nat.le_of_ble_eq_true rfl) kw_196 rfl ?_
            refine jj_iload_n hJ dX7_round_62 1 rfl rfl ?_
            obtain ⟨x8, h9, hF⟩ := ob hF
            refine jj_iald hJ dX7_round_63 7 0 rfl rfl h9 ?_
            refine jj_goto hJ 69 dX7_round_64 rfl ?_
            cases Option.some.inj hF
            exact jj_iret hJ dX7_round_69
        · replace hF := ip c6 hF
          refine jj_aload_n hJ dX7_round_43 0 rfl rfl ?_
          refine jj_get hJ lay_X7 dX7_round_44 0 14 rfl rfl (Nat.le_of_ble_eq_true rfl) kw_197 rfl ?_
          refine jj_goto hJ 69 dX7_round_47 rfl ?_
          cases Option.some.inj hF
          exact jj_iret hJ dX7_round_69
      · replace hF := iq c5 hF
        refine jj_aload_n hJ dX7_round_30 0 rfl rfl ?_
        refine jj_get hJ lay_X7 dX7_round_31 0 13 rfl rfl (Nat.le_of_ble_eq_true rfl) kw_195 rfl ?_
        refine jj_goto hJ 69 dX7_round_34 rfl ?_
        cases Option.some.inj hF
        exact jj_iret hJ dX7_round_69
    · replace hF := ip c4 hF
      refine jj_bipush hJ dX7_round_23 bp_m4 ?_
      cases Option.some.inj hF
      exact jj_iret hJ dX7_round_25
  · replace hF := ip c3 hF
    refine jj_iconst hJ dX7_round_14 ic_m1 ?_
    cases Option.some.inj hF
    exact jj_iret hJ dX7_round_15
section
def W_X7_isSo (cI cS cII : ClassId) (DA : Nat → Nat) (D_length : Int32) (D_text : Nat → Int32) (D_levels : Int32) (D_readLevels : Int32) (D_readAsked : Int32) (D_asked : Nat → Int32) (D_readKinds : Nat → Int32) (D_now : Nat → Int32) (D_before : Nat → Int32) (D_undoMany : Int32) (D_kept : Nat → Int32) (D_keptMany : Int32) (D_refused : Int32) (D_roundMany : Int32) (D_roundOver : Int32) (D_round : Nat → Int32) (D_terms : Int32) (D_termLevel : Nat → Int32) (D_termAdd : Nat → Int32) (D_spot : Int32) (D_number : Nat → Int32) (D_reach : Nat → Int32) (D_edge : Nat → Int32) (D_by : Nat → Int32) : va_W := [((DA 0), .inr (7, [.int D_length, .ref (DA 1), .int D_levels, .int D_readLevels, .int D_readAsked, .ref (DA 2), .ref (DA 3), .ref (DA 4), .ref (DA 5), .int D_undoMany, .ref (DA 6), .int D_keptMany, .int D_refused, .int D_roundMany, .int D_roundOver, .ref (DA 7), .int D_terms, .ref (DA 8), .ref (DA 9), .int D_spot, .ref (DA 10), .ref (DA 11), .ref (DA 12), .ref (DA 13)])), ((DA 1), .inl (cI, 200, .inl D_text)), ((DA 2), .inl (cI, 160, .inl D_asked)), ((DA 3), .inl (cI, 10, .inl D_readKinds)), ((DA 4), .inl (cI, 59, .inl D_now)), ((DA 5), .inl (cI, 472, .inl D_before)), ((DA 6), .inl (cI, 118, .inl D_kept)), ((DA 7), .inl (cI, 12, .inl D_round)), ((DA 8), .inl (cI, 6, .inl D_termLevel)), ((DA 9), .inl (cI, 6, .inl D_termAdd)), ((DA 10), .inl (cI, 3, .inl D_number)), ((DA 11), .inl (cI, 100, .inl D_reach)), ((DA 12), .inl (cI, 100, .inl D_edge)), ((DA 13), .inl (cI, 110, .inl D_by))]
abbrev Rm_X7_isSo : Room := { frames := 1, cells := 0, slots := 0, locals := 20 }
variable {l : Launch} {D : va_G} {cI cS cII : ClassId} {DA : Nat → Nat} {A : Nat → Prop} {J : jT}
variable {z_r : Int32}
def p_X7_isSo (D_reach : Nat → Int32) (a1 : Int32) (a2 : Int32) (a3 : Int32) : Option (Int32) := (rd D_reach 100 ((10 * a1) + a3)).bind fun x1 => (p_X7_isWay x1).bind fun r4 => if r4 = 0 then (some 0) else ((rd D_reach 100 ((10 * a1) + a3)).bind fun x6 => if x6 < a2 then (some 0) else (some 1))
end
set_option maxRecDepth 100000 in
theorem c_X7_isSo (l : Launch) (D : va_G) (cI cS cII : ClassId) (DA : Nat → Nat) (D_length : Int32) (D_text : Nat → Int32) (D_levels : Int32) (D_readLevels : Int32) (D_readAsked : Int32) (D_asked : Nat → Int32) (D_readKinds : Nat → Int32) (D_now : Nat → Int32) (D_before : Nat → Int32) (D_undoMany : Int32) (D_kept : Nat → Int32) (D_keptMany : Int32) (D_refused : Int32) (D_roundMany : Int32) (D_roundOver : Int32) (D_round : Nat → Int32) (D_terms : Int32) (D_termLevel : Nat → Int32) (D_termAdd : Nat → Int32) (D_spot : Int32) (D_number : Nat → Int32) (D_reach : Nat → Int32) (D_edge : Nat → Int32) (D_by : Nat → Int32) (a1 : Int32) (a2 : Int32) (a3 : Int32) {z_r : Int32} (hF : p_X7_isSo D_reach a1 a2 a3 = some z_r) : MJ l yX7_isSo cX7_isSo 4 (some .boolean) Rm_X7_isSo D (tysU cI cS cII) [.ref (DA 0), .int a1, .int a2, .int a3] (W_X7_isSo cI cS cII DA D_length D_text D_levels D_readLevels D_readAsked D_asked D_readKinds D_now D_before D_undoMany D_kept D_keptMany D_refused D_roundMany D_roundOver D_round D_terms D_termLevel D_termAdd D_spot D_number D_reach D_edge D_by) (some z_r) (W_X7_isSo cI cS cII DA D_length D_text D_levels D_readLevels D_readAsked D_asked D_readKinds D_now D_before D_undoMany D_kept D_keptMany D_refused D_roundMany D_roundOver D_round D_terms D_termLevel D_termAdd D_spot D_number D_reach D_edge D_by) := by
  refine mj_of (own := RX7) (by decide) rfl (Nat.le_of_ble_eq_true rfl) (fun J hJ => ?_)
  show J (W_X7_isSo cI cS cII DA D_length D_text D_levels D_readLevels D_readAsked D_asked D_readKinds D_now D_before D_undoMany D_kept D_keptMany D_refused D_roundMany D_roundOver D_round D_terms D_termLevel D_termAdd D_spot D_number D_reach D_edge D_by) 0 [(0, .ref (DA 0)), (1, .int a1), (2, .int a2), (3, .int a3)] []
  unfold p_X7_isSo at hF
  refine jj_aload_n hJ dX7_isSo_0 0 rfl rfl ?_
  refine jj_get hJ lay_X7 dX7_isSo_1 0 21 rfl rfl (Nat.le_of_ble_eq_true rfl) kw_185 rfl ?_
  refine jj_bipush hJ dX7_isSo_4 bp_10 ?_
  refine jj_iload_n hJ dX7_isSo_6 1 rfl rfl ?_
  refine jj_imul hJ dX7_isSo_7 ?_
  refine jj_iload_n hJ dX7_isSo_8 3 rfl rfl ?_
  refine jj_iadd hJ dX7_isSo_9 ?_
  obtain ⟨x1, h2, hF⟩ := ob hF
  refine jj_iald hJ dX7_isSo_10 11 0 rfl rfl h2 ?_
  obtain ⟨r4, h3, hF⟩ := ob hF
  refine jj_callS0 hJ (c_X7_isWay l D cI cS cII   x1 h3) dX7_isSo_11 kw_187 ⟨Nat.le_of_ble_eq_true rfl, Nat.le_of_ble_eq_true rfl, rfl, rfl⟩ kw_188 kw_189 rfl rfl (Nat.le_of_ble_eq_true rfl) [] rfl rfl ?_
  refine jj_if_eq hJ 36 dX7_isSo_14 rfl (fun c5 => ?_) (fun c5 => ?_)
  · replace hF := ip c5 hF
    refine jj_iconst hJ dX7_isSo_36 ic_0 ?_
    cases Option.some.inj hF
    exact jj_zret hJ (Or.inl rfl) dX7_isSo_37
  · replace hF := iq c5 hF
    refine jj_aload_n hJ dX7_isSo_17 0 rfl rfl ?_
    refine jj_get hJ lay_X7 dX7_isSo_18 0 21 rfl rfl (Nat.le_of_ble_eq_true rfl) kw_185 rfl ?_
    refine jj_bipush hJ dX7_isSo_21 bp_10 ?_
    refine jj_iload_n hJ dX7_isSo_23 1 rfl rfl ?_
    refine jj_imul hJ dX7_isSo_24 ?_
    refine jj_iload_n hJ dX7_isSo_25 3 rfl rfl ?_
    refine jj_iadd hJ dX7_isSo_26 ?_
    obtain ⟨x6, h7, hF⟩ := ob hF
    refine jj_iald hJ dX7_isSo_27 11 0 rfl rfl h7 ?_
    refine jj_iload_n hJ dX7_isSo_28 2 rfl rfl ?_
    refine jj_icmp_lt hJ 36 dX7_isSo_29 rfl (fun c8 => ?_) (fun c8 => ?_)
    · replace hF := ip c8 hF
      refine jj_iconst hJ dX7_isSo_36 ic_0 ?_
      cases Option.some.inj hF
      exact jj_zret hJ (Or.inl rfl) dX7_isSo_37
    · replace hF := iq c8 hF
      refine jj_iconst hJ dX7_isSo_32 ic_1 ?_
      refine jj_goto hJ 37 dX7_isSo_33 rfl ?_
      cases Option.some.inj hF
      exact jj_zret hJ (Or.inr rfl) dX7_isSo_37
section
def W_X7_follows (cI cS cII : ClassId) (DA : Nat → Nat) (D_length : Int32) (D_text : Nat → Int32) (D_levels : Int32) (D_readLevels : Int32) (D_readAsked : Int32) (D_asked : Nat → Int32) (D_readKinds : Nat → Int32) (D_now : Nat → Int32) (D_before : Nat → Int32) (D_undoMany : Int32) (D_kept : Nat → Int32) (D_keptMany : Int32) (D_refused : Int32) (D_roundMany : Int32) (D_roundOver : Int32) (D_round : Nat → Int32) (D_terms : Int32) (D_termLevel : Nat → Int32) (D_termAdd : Nat → Int32) (D_spot : Int32) (D_number : Nat → Int32) (D_reach : Nat → Int32) (D_edge : Nat → Int32) (D_by : Nat → Int32) : va_W := [((DA 0), .inr (7, [.int D_length, .ref (DA 1), .int D_levels, .int D_readLevels, .int D_readAsked, .ref (DA 2), .ref (DA 3), .ref (DA 4), .ref (DA 5), .int D_undoMany, .ref (DA 6), .int D_keptMany, .int D_refused, .int D_roundMany, .int D_roundOver, .ref (DA 7), .int D_terms, .ref (DA 8), .ref (DA 9), .int D_spot, .ref (DA 10), .ref (DA 11), .ref (DA 12), .ref (DA 13)])), ((DA 1), .inl (cI, 200, .inl D_text)), ((DA 2), .inl (cI, 160, .inl D_asked)), ((DA 3), .inl (cI, 10, .inl D_readKinds)), ((DA 4), .inl (cI, 59, .inl D_now)), ((DA 5), .inl (cI, 472, .inl D_before)), ((DA 6), .inl (cI, 118, .inl D_kept)), ((DA 7), .inl (cI, 12, .inl D_round)), ((DA 8), .inl (cI, 6, .inl D_termLevel)), ((DA 9), .inl (cI, 6, .inl D_termAdd)), ((DA 10), .inl (cI, 3, .inl D_number)), ((DA 11), .inl (cI, 100, .inl D_reach)), ((DA 12), .inl (cI, 100, .inl D_edge)), ((DA 13), .inl (cI, 110, .inl D_by))]
abbrev Rm_X7_follows : Room := { frames := 3, cells := 0, slots := 0, locals := 67 }
variable {l : Launch} {D : va_G} {cI cS cII : ClassId} {DA : Nat → Nat} {A : Nat → Prop} {J : jT}
variable {z_r : Int32} {z_D_reach : Nat → Int32} {z_D_edge : Nat → Int32}
def p_X7_follows (D_levels : Int32) (D_now : Nat → Int32) (D_reach : Nat → Int32) (D_edge : Nat → Int32) (a1 : Int32) (a2 : Int32) (a3 : Int32) : Option (Int32 × (Nat → Int32) × (Nat → Int32)) := (p_X7_isLevel D_levels a1).bind fun r2 => if r2 = 0 then (some ((-1), D_reach, D_edge)) else ((p_X7_isAdd a2).bind fun r5 => if r5 = 0 then (some ((-1), D_reach, D_edge)) else ((p_X7_isLevel D_levels a3).bind fun r8 => if r8 = 0 then (some ((-1), D_reach, D_edge)) else ((p_X7_find D_levels D_now D_reach D_edge).bind fun (g11, g12) => (p_X7_isSo g11 a1 a2 a3).bind fun r14 => if r14 = 0 then (some (0, g11, g12)) else (some (1, g11, g12)))))
end
set_option maxRecDepth 100000 in
theorem c_X7_follows (l : Launch) (D : va_G) (cI cS cII : ClassId) (DA : Nat → Nat) (D_length : Int32) (D_text : Nat → Int32) (D_levels : Int32) (D_readLevels : Int32) (D_readAsked : Int32) (D_asked : Nat → Int32) (D_readKinds : Nat → Int32) (D_now : Nat → Int32) (D_before : Nat → Int32) (D_undoMany : Int32) (D_kept : Nat → Int32) (D_keptMany : Int32) (D_refused : Int32) (D_roundMany : Int32) (D_roundOver : Int32) (D_round : Nat → Int32) (D_terms : Int32) (D_termLevel : Nat → Int32) (D_termAdd : Nat → Int32) (D_spot : Int32) (D_number : Nat → Int32) (D_reach : Nat → Int32) (D_edge : Nat → Int32) (D_by : Nat → Int32) (a1 : Int32) (a2 : Int32) (a3 : Int32) {z_r : Int32} {z_D_reach : Nat → Int32} {z_D_edge : Nat → Int32} (hF : p_X7_follows D_levels D_now D_reach D_edge a1 a2 a3 = some (z_r, z_D_reach, z_D_edge)) : MJ l yX7_follows cX7_follows 4 (some .int) Rm_X7_follows D (tysU cI cS cII) [.ref (DA 0), .int a1, .int a2, .int a3] (W_X7_follows cI cS cII DA D_length D_text D_levels D_readLevels D_readAsked D_asked D_readKinds D_now D_before D_undoMany D_kept D_keptMany D_refused D_roundMany D_roundOver D_round D_terms D_termLevel D_termAdd D_spot D_number D_reach D_edge D_by) (some z_r) (W_X7_follows cI cS cII DA D_length D_text D_levels D_readLevels D_readAsked D_asked D_readKinds D_now D_before D_undoMany D_kept D_keptMany D_refused D_roundMany D_roundOver D_round D_terms D_termLevel D_termAdd D_spot D_number z_D_reach z_D_edge D_by) := by
  refine mj_of (own := RX7) (by decide) rfl (Nat.le_of_ble_eq_true rfl) (fun J hJ => ?_)
  show J (W_X7_follows cI cS cII DA D_length D_text D_levels D_readLevels D_readAsked D_asked D_readKinds D_now D_before D_undoMany D_kept D_keptMany D_refused D_roundMany D_roundOver D_round D_terms D_termLevel D_termAdd D_spot D_number D_reach D_edge D_by) 0 [(0, .ref (DA 0)), (1, .int a1), (2, .int a2), (3, .int a3)] []
  unfold p_X7_follows at hF
  refine jj_aload_n hJ dX7_follows_0 0 rfl rfl ?_
  refine jj_iload_n hJ dX7_follows_1 1 rfl rfl ?_
  obtain ⟨r2, h1, hF⟩ := ob hF
  refine jj_callV0 hJ (c_X7_isLevel l D cI cS cII DA D_length D_text D_levels D_readLevels D_readAsked D_asked D_readKinds D_now D_before D_undoMany D_kept D_keptMany D_refused D_roundMany D_roundOver D_round D_terms D_termLevel D_termAdd D_spot D_number D_reach D_edge D_by a1 h1) dX7_follows_2 kw_232 ⟨Nat.le_of_ble_eq_true rfl, Nat.le_of_ble_eq_true rfl, rfl, rfl⟩ kw_231 kw_233 kw_234 0 rfl rfl rfl rfl (Nat.le_of_ble_eq_true rfl) [0, 1, 2, 3, 4, 5, 6, 7, 8, 9, 10, 11, 12, 13] rfl rfl ?_
  refine jj_if_eq hJ 23 dX7_follows_5 rfl (fun c3 => ?_) (fun c3 => ?_)
  · replace hF := ip c3 hF
    refine jj_iconst hJ dX7_follows_23 ic_m1 ?_
    cases Option.some.inj hF
    exact jj_iret hJ dX7_follows_24
  · replace hF := iq c3 hF
    refine jj_iload_n hJ dX7_follows_8 2 rfl rfl ?_
    obtain ⟨r5, h4, hF⟩ := ob hF
    refine jj_callS0 hJ (c_X7_isAdd l D cI cS cII   a2 h4) dX7_follows_9 kw_249 ⟨Nat.le_of_ble_eq_true rfl, Nat.le_of_ble_eq_true rfl, rfl, rfl⟩ kw_250 kw_251 rfl rfl (Nat.le_of_ble_eq_true rfl) [] rfl rfl ?_
    refine jj_if_eq hJ 23 dX7_follows_12 rfl (fun c6 => ?_) (fun c6 => ?_)
    · replace hF := ip c6 hF
      refine jj_iconst hJ dX7_follows_23 ic_m1 ?_
      cases Option.some.inj hF
      exact jj_iret hJ dX7_follows_24
    · replace hF := iq c6 hF
      refine jj_aload_n hJ dX7_follows_15 0 rfl rfl ?_
      refine jj_iload_n hJ dX7_follows_16 3 rfl rfl ?_
      obtain ⟨r8, h7, hF⟩ := ob hF
      refine jj_callV0 hJ (c_X7_isLevel l D cI cS cII DA D_length D_text D_levels D_readLevels D_readAsked D_asked D_readKinds D_now D_before D_undoMany D_kept D_keptMany D_refused D_roundMany D_roundOver D_round D_terms D_termLevel D_termAdd D_spot D_number D_reach D_edge D_by a3 h7) dX7_follows_17 kw_232 ⟨Nat.le_of_ble_eq_true rfl, Nat.le_of_ble_eq_true rfl, rfl, rfl⟩ kw_231 kw_233 kw_234 0 rfl rfl rfl rfl (Nat.le_of_ble_eq_true rfl) [0, 1, 2, 3, 4, 5, 6, 7, 8, 9, 10, 11, 12, 13] rfl rfl ?_
      refine jj_if_ne hJ 25 dX7_follows_20 rfl (fun c9 => ?_) (fun c9 => ?_)
      · replace hF := iq c9 hF
        refine jj_aload_n hJ dX7_follows_25 0 rfl rfl ?_
        obtain ⟨⟨g11, g12⟩, h10, hF⟩ := ob hF
        refine jj_callV hJ (c_X7_find l D cI cS cII DA D_length D_text D_levels D_readLevels D_readAsked D_asked D_readKinds D_now D_before D_undoMany D_kept D_keptMany D_refused D_roundMany D_roundOver D_round D_terms D_termLevel D_termAdd D_spot D_number D_reach D_edge D_by  h10) dX7_follows_26 kw_203 ⟨Nat.le_of_ble_eq_true rfl, Nat.le_of_ble_eq_true rfl, rfl, rfl⟩ kw_202 kw_204 kw_205 0 rfl rfl rfl rfl (Nat.le_of_ble_eq_true rfl) [0, 1, 2, 3, 4, 5, 6, 7, 8, 9, 10, 11, 12, 13] rfl rfl (wn := (W_X7_follows cI cS cII DA D_length D_text D_levels D_readLevels D_readAsked D_asked D_readKinds D_now D_before D_undoMany D_kept D_keptMany D_refused D_roundMany D_roundOver D_round D_terms D_termLevel D_termAdd D_spot D_number g11 g12 D_by)) (jNew_sel rfl [some 0, some 1, some 2, some 3, some 4, some 5, some 6, some 7, some 8, some 9, some 10, some 11, some 12, some 13] (by decide +kernel) rfl) ?_
        refine jj_aload_n hJ dX7_follows_29 0 rfl rfl ?_
        refine jj_iload_n hJ dX7_follows_30 1 rfl rfl ?_
        refine jj_iload_n hJ dX7_follows_31 2 rfl rfl ?_
        refine jj_iload_n hJ dX7_follows_32 3 rfl rfl ?_
        obtain ⟨r14, h13, hF⟩ := ob hF
        refine jj_callV0 hJ (c_X7_isSo l D cI cS cII DA D_length D_text D_levels D_readLevels D_readAsked D_asked D_readKinds D_now D_before D_undoMany D_kept D_keptMany D_refused D_roundMany D_roundOver D_round D_terms D_termLevel D_termAdd D_spot D_number g11 g12 D_by a1 a2 a3 h13) dX7_follows_33 kw_260 ⟨Nat.le_of_ble_eq_true rfl, Nat.le_of_ble_eq_true rfl, rfl, rfl⟩ kw_259 kw_261 kw_262 0 rfl rfl rfl rfl (Nat.le_of_ble_eq_true rfl) [0, 1, 2, 3, 4, 5, 6, 7, 8, 9, 10, 11, 12, 13] rfl rfl ?_
        refine jj_if_eq hJ 43 dX7_follows_36 rfl (fun c15 => ?_) (fun c15 => ?_)
        · replace hF := ip c15 hF
          refine jj_iconst hJ dX7_follows_43 ic_0 ?_
          cases Option.some.inj hF
          exact jj_iret hJ dX7_follows_44
        · replace hF := iq c15 hF
          refine jj_iconst hJ dX7_follows_39 ic_1 ?_
          refine jj_goto hJ 44 dX7_follows_40 rfl ?_
          cases Option.some.inj hF
          exact jj_iret hJ dX7_follows_44
      · replace hF := ip c9 hF
        refine jj_iconst hJ dX7_follows_23 ic_m1 ?_
        cases Option.some.inj hF
        exact jj_iret hJ dX7_follows_24
section
def W_X7_raised (cI cS cII : ClassId) (DA : Nat → Nat) (D_length : Int32) (D_text : Nat → Int32) (D_levels : Int32) (D_readLevels : Int32) (D_readAsked : Int32) (D_asked : Nat → Int32) (D_readKinds : Nat → Int32) (D_now : Nat → Int32) (D_before : Nat → Int32) (D_undoMany : Int32) (D_kept : Nat → Int32) (D_keptMany : Int32) (D_refused : Int32) (D_roundMany : Int32) (D_roundOver : Int32) (D_round : Nat → Int32) (D_terms : Int32) (D_termLevel : Nat → Int32) (D_termAdd : Nat → Int32) (D_spot : Int32) (D_number : Nat → Int32) (D_reach : Nat → Int32) (D_edge : Nat → Int32) (D_by : Nat → Int32) : va_W := [((DA 0), .inr (7, [.int D_length, .ref (DA 1), .int D_levels, .int D_readLevels, .int D_readAsked, .ref (DA 2), .ref (DA 3), .ref (DA 4), .ref (DA 5), .int D_undoMany, .ref (DA 6), .int D_keptMany, .int D_refused, .int D_roundMany, .int D_roundOver, .ref (DA 7), .int D_terms, .ref (DA 8), .ref (DA 9), .int D_spot, .ref (DA 10), .ref (DA 11), .ref (DA 12), .ref (DA 13)])), ((DA 1), .inl (cI, 200, .inl D_text)), ((DA 2), .inl (cI, 160, .inl D_asked)), ((DA 3), .inl (cI, 10, .inl D_readKinds)), ((DA 4), .inl (cI, 59, .inl D_now)), ((DA 5), .inl (cI, 472, .inl D_before)), ((DA 6), .inl (cI, 118, .inl D_kept)), ((DA 7), .inl (cI, 12, .inl D_round)), ((DA 8), .inl (cI, 6, .inl D_termLevel)), ((DA 9), .inl (cI, 6, .inl D_termAdd)), ((DA 10), .inl (cI, 3, .inl D_number)), ((DA 11), .inl (cI, 100, .inl D_reach)), ((DA 12), .inl (cI, 100, .inl D_edge)), ((DA 13), .inl (cI, 110, .inl D_by))]
abbrev Rm_X7_raised : Room := { frames := 3, cells := 0, slots := 0, locals := 67 }
variable {l : Launch} {D : va_G} {cI cS cII : ClassId} {DA : Nat → Nat} {A : Nat → Prop} {J : jT}
variable {z_r : Int32} {z_D_reach : Nat → Int32} {z_D_edge : Nat → Int32}
def p_X7_raised (D_levels : Int32) (D_now : Nat → Int32) (D_reach : Nat → Int32) (D_edge : Nat → Int32) (a1 : Int32) (a2 : Int32) (a3 : Int32) : Option (Int32 × (Nat → Int32) × (Nat → Int32)) := (p_X7_isLevel D_levels a1).bind fun r2 => if r2 = 0 then (some ((-1), D_reach, D_edge)) else ((p_X7_in ((a2 : Int32).toInt64) 0 ((99))).bind fun r5 => if r5 = 0 then (some ((-1), D_reach, D_edge)) else ((p_X7_isLevel D_levels a3).bind fun r8 => if r8 = 0 then (some ((-1), D_reach, D_edge)) else ((p_X7_find D_levels D_now D_reach D_edge).bind fun (g11, g12) => (p_X7_valueOf D_levels g11 a3).bind fun r14 => (rd g11 100 ((10 * a1) + a3)).bind fun x15 => (p_X7_isWay x15).bind fun r18 => if r18 = 0 then (some (r14, g11, g12)) else (if (a2 + x15) ≤ r14 then (some (r14, g11, g12)) else (some (a2 + x15, g11, g12))))))
end
set_option maxRecDepth 100000 in
theorem c_X7_raised (l : Launch) (D : va_G) (cI cS cII : ClassId) (DA : Nat → Nat) (D_length : Int32) (D_text : Nat → Int32) (D_levels : Int32) (D_readLevels : Int32) (D_readAsked : Int32) (D_asked : Nat → Int32) (D_readKinds : Nat → Int32) (D_now : Nat → Int32) (D_before : Nat → Int32) (D_undoMany : Int32) (D_kept : Nat → Int32) (D_keptMany : Int32) (D_refused : Int32) (D_roundMany : Int32) (D_roundOver : Int32) (D_round : Nat → Int32) (D_terms : Int32) (D_termLevel : Nat → Int32) (D_termAdd : Nat → Int32) (D_spot : Int32) (D_number : Nat → Int32) (D_reach : Nat → Int32) (D_edge : Nat → Int32) (D_by : Nat → Int32) (a1 : Int32) (a2 : Int32) (a3 : Int32) {z_r : Int32} {z_D_reach : Nat → Int32} {z_D_edge : Nat → Int32} (hF : p_X7_raised D_levels D_now D_reach D_edge a1 a2 a3 = some (z_r, z_D_reach, z_D_edge)) : MJ l yX7_raised cX7_raised 6 (some .int) Rm_X7_raised D (tysU cI cS cII) [.ref (DA 0), .int a1, .int a2, .int a3] (W_X7_raised cI cS cII DA D_length D_text D_levels D_readLevels D_readAsked D_asked D_readKinds D_now D_before D_undoMany D_kept D_keptMany D_refused D_roundMany D_roundOver D_round D_terms D_termLevel D_termAdd D_spot D_number D_reach D_edge D_by) (some z_r) (W_X7_raised cI cS cII DA D_length D_text D_levels D_readLevels D_readAsked D_asked D_readKinds D_now D_before D_undoMany D_kept D_keptMany D_refused D_roundMany D_roundOver D_round D_terms D_termLevel D_termAdd D_spot D_number z_D_reach z_D_edge D_by) := by
  refine mj_of (own := RX7) (by decide) rfl (Nat.le_of_ble_eq_true rfl) (fun J hJ => ?_)
  show J (W_X7_raised cI cS cII DA D_length D_text D_levels D_readLevels D_readAsked D_asked D_readKinds D_now D_before D_undoMany D_kept D_keptMany D_refused D_roundMany D_roundOver D_round D_terms D_termLevel D_termAdd D_spot D_number D_reach D_edge D_by) 0 [(0, .ref (DA 0)), (1, .int a1), (2, .int a2), (3, .int a3)] []
  unfold p_X7_raised at hF
  refine jj_aload_n hJ dX7_raised_0 0 rfl rfl ?_
  refine jj_iload_n hJ dX7_raised_1 1 rfl rfl ?_
  obtain ⟨r2, h1, hF⟩ := ob hF
  refine jj_callV0 hJ (c_X7_isLevel l D cI cS cII DA D_length D_text D_levels D_readLevels D_readAsked D_asked D_readKinds D_now D_before D_undoMany D_kept D_keptMany D_refused D_roundMany D_roundOver D_round D_terms D_termLevel D_termAdd D_spot D_number D_reach D_edge D_by a1 h1) dX7_raised_2 kw_232 ⟨Nat.le_of_ble_eq_true rfl, Nat.le_of_ble_eq_true rfl, rfl, rfl⟩ kw_231 kw_233 kw_234 0 rfl rfl rfl rfl (Nat.le_of_ble_eq_true rfl) [0, 1, 2, 3, 4, 5, 6, 7, 8, 9, 10, 11, 12, 13] rfl rfl ?_
  refine jj_if_eq hJ 28 dX7_raised_5 rfl (fun c3 => ?_) (fun c3 => ?_)
  · replace hF := ip c3 hF
    refine jj_iconst hJ dX7_raised_28 ic_m1 ?_
    cases Option.some.inj hF
    exact jj_iret hJ dX7_raised_29
  · replace hF := iq c3 hF
    refine jj_iload_n hJ dX7_raised_8 2 rfl rfl ?_
    refine jj_i2l hJ dX7_raised_9 ?_
    refine jj_lconst hJ dX7_raised_10 lc_0 ?_
    refine jj_ldc2 hJ dX7_raised_11 kw_263 ?_
    obtain ⟨r5, h4, hF⟩ := ob hF
    refine jj_callS0 hJ (c_X7_in l D cI cS cII   ((a2 : Int32).toInt64) 0 ((99)) h4) dX7_raised_14 kw_140 ⟨Nat.le_of_ble_eq_true rfl, Nat.le_of_ble_eq_true rfl, rfl, rfl⟩ kw_141 kw_142 rfl rfl (Nat.le_of_ble_eq_true rfl) [] rfl rfl ?_
    refine jj_if_eq hJ 28 dX7_raised_17 rfl (fun c6 => ?_) (fun c6 => ?_)
    · replace hF := ip c6 hF
      refine jj_iconst hJ dX7_raised_28 ic_m1 ?_
      cases Option.some.inj hF
      exact jj_iret hJ dX7_raised_29
    · replace hF := iq c6 hF
      refine jj_aload_n hJ dX7_raised_20 0 rfl rfl ?_
      refine jj_iload_n hJ dX7_raised_21 3 rfl rfl ?_
      obtain ⟨r8, h7, hF⟩ := ob hF
      refine jj_callV0 hJ (c_X7_isLevel l D cI cS cII DA D_length D_text D_levels D_readLevels D_readAsked D_asked D_readKinds D_now D_before D_undoMany D_kept D_keptMany D_refused D_roundMany D_roundOver D_round D_terms D_termLevel D_termAdd D_spot D_number D_reach D_edge D_by a3 h7) dX7_raised_22 kw_232 ⟨Nat.le_of_ble_eq_true rfl, Nat.le_of_ble_eq_true rfl, rfl, rfl⟩ kw_231 kw_233 kw_234 0 rfl rfl rfl rfl (Nat.le_of_ble_eq_true rfl) [0, 1, 2, 3, 4, 5, 6, 7, 8, 9, 10, 11, 12, 13] rfl rfl ?_
      refine jj_if_ne hJ 30 dX7_raised_25 rfl (fun c9 => ?_) (fun c9 => ?_)
      · replace hF := iq c9 hF
        refine jj_aload_n hJ dX7_raised_30 0 rfl rfl ?_
        obtain ⟨⟨g11, g12⟩, h10, hF⟩ := ob hF
        refine jj_callV hJ (c_X7_find l D cI cS cII DA D_length D_text D_levels D_readLevels D_readAsked D_asked D_readKinds D_now D_before D_undoMany D_kept D_keptMany D_refused D_roundMany D_roundOver D_round D_terms D_termLevel D_termAdd D_spot D_number D_reach D_edge D_by  h10) dX7_raised_31 kw_203 ⟨Nat.le_of_ble_eq_true rfl, Nat.le_of_ble_eq_true rfl, rfl, rfl⟩ kw_202 kw_204 kw_205 0 rfl rfl rfl rfl (Nat.le_of_ble_eq_true rfl) [0, 1, 2, 3, 4, 5, 6, 7, 8, 9, 10, 11, 12, 13] rfl rfl (wn := (W_X7_raised cI cS cII DA D_length D_text D_levels D_readLevels D_readAsked D_asked D_readKinds D_now D_before D_undoMany D_kept D_keptMany D_refused D_roundMany D_roundOver D_round D_terms D_termLevel D_termAdd D_spot D_number g11 g12 D_by)) (jNew_sel rfl [some 0, some 1, some 2, some 3, some 4, some 5, some 6, some 7, some 8, some 9, some 10, some 11, some 12, some 13] (by decide +kernel) rfl) ?_
        refine jj_aload_n hJ dX7_raised_34 0 rfl rfl ?_
        refine jj_iload_n hJ dX7_raised_35 3 rfl rfl ?_
        obtain ⟨r14, h13, hF⟩ := ob hF
        refine jj_callV0 hJ (c_X7_valueOf l D cI cS cII DA D_length D_text D_levels D_readLevels D_readAsked D_asked D_readKinds D_now D_before D_undoMany D_kept D_keptMany D_refused D_roundMany D_roundOver D_round D_terms D_termLevel D_termAdd D_spot D_number g11 g12 D_by a3 h13) dX7_raised_36 kw_237 ⟨Nat.le_of_ble_eq_true rfl, Nat.le_of_ble_eq_true rfl, rfl, rfl⟩ kw_236 kw_238 kw_239 0 rfl rfl rfl rfl (Nat.le_of_ble_eq_true rfl) [0, 1, 2, 3, 4, 5, 6, 7, 8, 9, 10, 11, 12, 13] rfl rfl ?_
        refine jj_istore hJ dX7_raised_39 (Nat.le_of_ble_eq_true rfl) (lv' := [(4, .int r14), (0, .ref (DA 0)), (1, .int a1), (2, .int a2), (3, .int a3)]) rfl ?_
        refine jj_aload_n hJ dX7_raised_41 1 rfl rfl ?_
        refine jj_get hJ lay_X7 dX7_raised_42 0 21 rfl rfl (Nat.le_of_ble_eq_true rfl) kw_185 rfl ?_
        refine jj_bipush hJ dX7_raised_45 bp_10 ?_
        refine jj_iload_n hJ dX7_raised_47 2 rfl rfl ?_
        refine jj_imul hJ dX7_raised_48 ?_
        refine jj_iload_n hJ dX7_raised_49 4 rfl rfl ?_
        refine jj_iadd hJ dX7_raised_50 ?_
        obtain ⟨x15, h16, hF⟩ := ob hF
        refine jj_iald hJ dX7_raised_51 11 0 rfl rfl h16 ?_
        refine jj_istore hJ dX7_raised_52 (Nat.le_of_ble_eq_true rfl) (lv' := [(5, .int x15), (4, .int r14), (0, .ref (DA 0)), (1, .int a1), (2, .int a2), (3, .int a3)]) rfl ?_
        refine jj_iload hJ dX7_raised_54 0 rfl ?_
        obtain ⟨r18, h17, hF⟩ := ob hF
        refine jj_callS0 hJ (c_X7_isWay l D cI cS cII   x15 h17) dX7_raised_56 kw_187 ⟨Nat.le_of_ble_eq_true rfl, Nat.le_of_ble_eq_true rfl, rfl, rfl⟩ kw_188 kw_189 rfl rfl (Nat.le_of_ble_eq_true rfl) [] rfl rfl ?_
        refine jj_if_eq hJ 78 dX7_raised_59 rfl (fun c19 => ?_) (fun c19 => ?_)
        · replace hF := ip c19 hF
          refine jj_iload hJ dX7_raised_78 1 rfl ?_
          cases Option.some.inj hF
          exact jj_iret hJ dX7_raised_80
        · replace hF := iq c19 hF
          refine jj_iload_n hJ dX7_raised_62 4 rfl rfl ?_
          refine jj_iload hJ dX7_raised_63 0 rfl ?_
          refine jj_iadd hJ dX7_raised_65 ?_
          refine jj_iload hJ dX7_raised_66 1 rfl ?_
          refine jj_icmp_le hJ 78 dX7_raised_68 rfl (fun c20 => ?_) (fun c20 => ?_)
          · replace hF := ip c20 hF
            refine jj_iload hJ dX7_raised_78 1 rfl ?_
            cases Option.some.inj hF
            exact jj_iret hJ dX7_raised_80
          · replace hF := iq c20 hF
            refine jj_iload_n hJ dX7_raised_71 4 rfl rfl ?_
            refine jj_iload hJ dX7_raised_72 0 rfl ?_
            refine jj_iadd hJ dX7_raised_74 ?_
            refine jj_goto hJ 80 dX7_raised_75 rfl ?_
            cases Option.some.inj hF
            exact jj_iret hJ dX7_raised_80
      · replace hF := ip c9 hF
        refine jj_iconst hJ dX7_raised_28 ic_m1 ?_
        cases Option.some.inj hF
        exact jj_iret hJ dX7_raised_29
section
def W_X7_top (cI cS cII : ClassId) (DA : Nat → Nat) (D_length : Int32) (D_text : Nat → Int32) (D_levels : Int32) (D_readLevels : Int32) (D_readAsked : Int32) (D_asked : Nat → Int32) (D_readKinds : Nat → Int32) (D_now : Nat → Int32) (D_before : Nat → Int32) (D_undoMany : Int32) (D_kept : Nat → Int32) (D_keptMany : Int32) (D_refused : Int32) (D_roundMany : Int32) (D_roundOver : Int32) (D_round : Nat → Int32) (D_terms : Int32) (D_termLevel : Nat → Int32) (D_termAdd : Nat → Int32) (D_spot : Int32) (D_number : Nat → Int32) (D_reach : Nat → Int32) (D_edge : Nat → Int32) (D_by : Nat → Int32) : va_W := [((DA 0), .inr (7, [.int D_length, .ref (DA 1), .int D_levels, .int D_readLevels, .int D_readAsked, .ref (DA 2), .ref (DA 3), .ref (DA 4), .ref (DA 5), .int D_undoMany, .ref (DA 6), .int D_keptMany, .int D_refused, .int D_roundMany, .int D_roundOver, .ref (DA 7), .int D_terms, .ref (DA 8), .ref (DA 9), .int D_spot, .ref (DA 10), .ref (DA 11), .ref (DA 12), .ref (DA 13)])), ((DA 1), .inl (cI, 200, .inl D_text)), ((DA 2), .inl (cI, 160, .inl D_asked)), ((DA 3), .inl (cI, 10, .inl D_readKinds)), ((DA 4), .inl (cI, 59, .inl D_now)), ((DA 5), .inl (cI, 472, .inl D_before)), ((DA 6), .inl (cI, 118, .inl D_kept)), ((DA 7), .inl (cI, 12, .inl D_round)), ((DA 8), .inl (cI, 6, .inl D_termLevel)), ((DA 9), .inl (cI, 6, .inl D_termAdd)), ((DA 10), .inl (cI, 3, .inl D_number)), ((DA 11), .inl (cI, 100, .inl D_reach)), ((DA 12), .inl (cI, 100, .inl D_edge)), ((DA 13), .inl (cI, 110, .inl D_by))]
abbrev Rm_X7_top : Room := { frames := 3, cells := 0, slots := 0, locals := 67 }
variable {l : Launch} {D : va_G} {cI cS cII : ClassId} {DA : Nat → Nat} {A : Nat → Prop} {J : jT}
variable {z_r : Int32} {z_D_reach : Nat → Int32} {z_D_edge : Nat → Int32}
def p_X7_top (D_levels : Int32) (D_now : Nat → Int32) (D_reach : Nat → Int32) (D_edge : Nat → Int32) (a1 : Int32) (a2 : Int32) (a3 : Int32) : Option (Int32 × (Nat → Int32) × (Nat → Int32)) := (p_X7_isLevel D_levels a1).bind fun r2 => if r2 = 0 then (some ((-1), D_reach, D_edge)) else ((p_X7_in ((a2 : Int32).toInt64) 0 ((99))).bind fun r5 => if r5 = 0 then (some ((-1), D_reach, D_edge)) else ((p_X7_isLevel D_levels a3).bind fun r8 => if r8 = 0 then (some ((-1), D_reach, D_edge)) else ((p_X7_find D_levels D_now D_reach D_edge).bind fun (g11, g12) => (rd g11 100 ((10 * a3) + a1)).bind fun x13 => (p_X7_isWay x13).bind fun r16 => if r16 = 0 then (some ((-4), g11, g12)) else ((p_X7_valueOf D_levels g11 a1).bind fun r19 => if r19 ≤ a2 then (some ((a2 - x13) + 1000, g11, g12)) else (some ((-4), g11, g12))))))
end
set_option maxRecDepth 100000 in
theorem c_X7_top (l : Launch) (D : va_G) (cI cS cII : ClassId) (DA : Nat → Nat) (D_length : Int32) (D_text : Nat → Int32) (D_levels : Int32) (D_readLevels : Int32) (D_readAsked : Int32) (D_asked : Nat → Int32) (D_readKinds : Nat → Int32) (D_now : Nat → Int32) (D_before : Nat → Int32) (D_undoMany : Int32) (D_kept : Nat → Int32) (D_keptMany : Int32) (D_refused : Int32) (D_roundMany : Int32) (D_roundOver : Int32) (D_round : Nat → Int32) (D_terms : Int32) (D_termLevel : Nat → Int32) (D_termAdd : Nat → Int32) (D_spot : Int32) (D_number : Nat → Int32) (D_reach : Nat → Int32) (D_edge : Nat → Int32) (D_by : Nat → Int32) (a1 : Int32) (a2 : Int32) (a3 : Int32) {z_r : Int32} {z_D_reach : Nat → Int32} {z_D_edge : Nat → Int32} (hF : p_X7_top D_levels D_now D_reach D_edge a1 a2 a3 = some (z_r, z_D_reach, z_D_edge)) : MJ l yX7_top cX7_top 5 (some .int) Rm_X7_top D (tysU cI cS cII) [.ref (DA 0), .int a1, .int a2, .int a3] (W_X7_top cI cS cII DA D_length D_text D_levels D_readLevels D_readAsked D_asked D_readKinds D_now D_before D_undoMany D_kept D_keptMany D_refused D_roundMany D_roundOver D_round D_terms D_termLevel D_termAdd D_spot D_number D_reach D_edge D_by) (some z_r) (W_X7_top cI cS cII DA D_length D_text D_levels D_readLevels D_readAsked D_asked D_readKinds D_now D_before D_undoMany D_kept D_keptMany D_refused D_roundMany D_roundOver D_round D_terms D_termLevel D_termAdd D_spot D_number z_D_reach z_D_edge D_by) := by
  refine mj_of (own := RX7) (by decide) rfl (Nat.le_of_ble_eq_true rfl) (fun J hJ => ?_)
  show J (W_X7_top cI cS cII DA D_length D_text D_levels D_readLevels D_readAsked D_asked D_readKinds D_now D_before D_undoMany D_kept D_keptMany D_refused D_roundMany D_roundOver D_round D_terms D_termLevel D_termAdd D_spot D_number D_reach D_edge D_by) 0 [(0, .ref (DA 0)), (1, .int a1), (2, .int a2), (3, .int a3)] []
  unfold p_X7_top at hF
  refine jj_aload_n hJ dX7_top_0 0 rfl rfl ?_
  refine jj_iload_n hJ dX7_top_1 1 rfl rfl ?_
  obtain ⟨r2, h1, hF⟩ := ob hF
  refine jj_callV0 hJ (c_X7_isLevel l D cI cS cII DA D_length D_text D_levels D_readLevels D_readAsked D_asked D_readKinds D_now D_before D_undoMany D_kept D_keptMany D_refused D_roundMany D_roundOver D_round D_terms D_termLevel D_termAdd D_spot D_number D_reach D_edge D_by a1 h1) dX7_top_2 kw_232 ⟨Nat.le_of_ble_eq_true rfl, Nat.le_of_ble_eq_true rfl, rfl, rfl⟩ kw_231 kw_233 kw_234 0 rfl rfl rfl rfl (Nat.le_of_ble_eq_true rfl) [0, 1, 2, 3, 4, 5, 6, 7, 8, 9, 10, 11, 12, 13] rfl rfl ?_
  refine jj_if_eq hJ 28 dX7_top_5 rfl (fun c3 => ?_) (fun c3 => ?_)
  · replace hF := ip c3 hF
    refine jj_iconst hJ dX7_top_28 ic_m1 ?_
    cases Option.some.inj hF
    exact jj_iret hJ dX7_top_29
  · replace hF := iq c3 hF
    refine jj_iload_n hJ dX7_top_8 2 rfl rfl ?_
    refine jj_i2l hJ dX7_top_9 ?_
    refine jj_lconst hJ dX7_top_10 lc_0 ?_
    refine jj_ldc2 hJ dX7_top_11 kw_263 ?_
    obtain ⟨r5, h4, hF⟩ := ob hF
    refine jj_callS0 hJ (c_X7_in l D cI cS cII   ((a2 : Int32).toInt64) 0 ((99)) h4) dX7_top_14 kw_140 ⟨Nat.le_of_ble_eq_true rfl, Nat.le_of_ble_eq_true rfl, rfl, rfl⟩ kw_141 kw_142 rfl rfl (Nat.le_of_ble_eq_true rfl) [] rfl rfl ?_
    refine jj_if_eq hJ 28 dX7_top_17 rfl (fun c6 => ?_) (fun c6 => ?_)
    · replace hF := ip c6 hF
      refine jj_iconst hJ dX7_top_28 ic_m1 ?_
      cases Option.some.inj hF
      exact jj_iret hJ dX7_top_29
    · replace hF := iq c6 hF
      refine jj_aload_n hJ dX7_top_20 0 rfl rfl ?_
      refine jj_iload_n hJ dX7_top_21 3 rfl rfl ?_
      obtain ⟨r8, h7, hF⟩ := ob hF
      refine jj_callV0 hJ (c_X7_isLevel l D cI cS cII DA D_length D_text D_levels D_readLevels D_readAsked D_asked D_readKinds D_now D_before D_undoMany D_kept D_keptMany D_refused D_roundMany D_roundOver D_round D_terms D_termLevel D_termAdd D_spot D_number D_reach D_edge D_by a3 h7) dX7_top_22 kw_232 ⟨Nat.le_of_ble_eq_true rfl, Nat.le_of_ble_eq_true rfl, rfl, rfl⟩ kw_231 kw_233 kw_234 0 rfl rfl rfl rfl (Nat.le_of_ble_eq_true rfl) [0, 1, 2, 3, 4, 5, 6, 7, 8, 9, 10, 11, 12, 13] rfl rfl ?_
      refine jj_if_ne hJ 30 dX7_top_25 rfl (fun c9 => ?_) (fun c9 => ?_)
      · replace hF := iq c9 hF
        refine jj_aload_n hJ dX7_top_30 0 rfl rfl ?_
        obtain ⟨⟨g11, g12⟩, h10, hF⟩ := ob hF
        refine jj_callV hJ (c_X7_find l D cI cS cII DA D_length D_text D_levels D_readLevels D_readAsked D_asked D_readKinds D_now D_before D_undoMany D_kept D_keptMany D_refused D_roundMany D_roundOver D_round D_terms D_termLevel D_termAdd D_spot D_number D_reach D_edge D_by  h10) dX7_top_31 kw_203 ⟨Nat.le_of_ble_eq_true rfl, Nat.le_of_ble_eq_true rfl, rfl, rfl⟩ kw_202 kw_204 kw_205 0 rfl rfl rfl rfl (Nat.le_of_ble_eq_true rfl) [0, 1, 2, 3, 4, 5, 6, 7, 8, 9, 10, 11, 12, 13] rfl rfl (wn := (W_X7_top cI cS cII DA D_length D_text D_levels D_readLevels D_readAsked D_asked D_readKinds D_now D_before D_undoMany D_kept D_keptMany D_refused D_roundMany D_roundOver D_round D_terms D_termLevel D_termAdd D_spot D_number g11 g12 D_by)) (jNew_sel rfl [some 0, some 1, some 2, some 3, some 4, some 5, some 6, some 7, some 8, some 9, some 10, some 11, some 12, some 13] (by decide +kernel) rfl) ?_
        refine jj_aload_n hJ dX7_top_34 0 rfl rfl ?_
        refine jj_get hJ lay_X7 dX7_top_35 0 21 rfl rfl (Nat.le_of_ble_eq_true rfl) kw_185 rfl ?_
        refine jj_bipush hJ dX7_top_38 bp_10 ?_
        refine jj_iload_n hJ dX7_top_40 3 rfl rfl ?_
        refine jj_imul hJ dX7_top_41 ?_
        refine jj_iload_n hJ dX7_top_42 1 rfl rfl ?_
        refine jj_iadd hJ dX7_top_43 ?_
        obtain ⟨x13, h14, hF⟩ := ob hF
        refine jj_iald hJ dX7_top_44 11 0 rfl rfl h14 ?_
        refine jj_istore hJ dX7_top_45 (Nat.le_of_ble_eq_true rfl) (lv' := [(4, .int x13), (0, .ref (DA 0)), (1, .int a1), (2, .int a2), (3, .int a3)]) rfl ?_
        refine jj_iload hJ dX7_top_47 0 rfl ?_
        obtain ⟨r16, h15, hF⟩ := ob hF
        refine jj_callS0 hJ (c_X7_isWay l D cI cS cII   x13 h15) dX7_top_49 kw_187 ⟨Nat.le_of_ble_eq_true rfl, Nat.le_of_ble_eq_true rfl, rfl, rfl⟩ kw_188 kw_189 rfl rfl (Nat.le_of_ble_eq_true rfl) [] rfl rfl ?_
        refine jj_if_eq hJ 64 dX7_top_52 rfl (fun c17 => ?_) (fun c17 => ?_)
        · replace hF := ip c17 hF
          refine jj_bipush hJ dX7_top_64 bp_m4 ?_
          refine jj_goto hJ 77 dX7_top_66 rfl ?_
          cases Option.some.inj hF
          exact jj_iret hJ dX7_top_77
        · replace hF := iq c17 hF
          refine jj_aload_n hJ dX7_top_55 1 rfl rfl ?_
          refine jj_iload_n hJ dX7_top_56 2 rfl rfl ?_
          obtain ⟨r19, h18, hF⟩ := ob hF
          refine jj_callV0 hJ (c_X7_valueOf l D cI cS cII DA D_length D_text D_levels D_readLevels D_readAsked D_asked D_readKinds D_now D_before D_undoMany D_kept D_keptMany D_refused D_roundMany D_roundOver D_round D_terms D_termLevel D_termAdd D_spot D_number g11 g12 D_by a1 h18) dX7_top_57 kw_237 ⟨Nat.le_of_ble_eq_true rfl, Nat.le_of_ble_eq_true rfl, rfl, rfl⟩ kw_236 kw_238 kw_239 0 rfl rfl rfl rfl (Nat.le_of_ble_eq_true rfl) [0, 1, 2, 3, 4, 5, 6, 7, 8, 9, 10, 11, 12, 13] rfl rfl ?_
          refine jj_iload_n hJ dX7_top_60 3 rfl rfl ?_
          refine jj_icmp_le hJ 69 dX7_top_61 rfl (fun c20 => ?_) (fun c20 => ?_)
          · replace hF := ip c20 hF
            refine jj_iload_n hJ dX7_top_69 3 rfl rfl ?_
            refine jj_iload hJ dX7_top_70 0 rfl ?_
            refine jj_isub hJ dX7_top_72 ?_
            refine jj_sipush hJ dX7_top_73 sp_1000 ?_
            refine jj_iadd hJ dX7_top_76 ?_
            cases Option.some.inj hF
            exact jj_iret hJ dX7_top_77
          · replace hF := iq c20 hF
            refine jj_bipush hJ dX7_top_64 bp_m4 ?_
            refine jj_goto hJ 77 dX7_top_66 rfl ?_
            cases Option.some.inj hF
            exact jj_iret hJ dX7_top_77
      · replace hF := ip c9 hF
        refine jj_iconst hJ dX7_top_28 ic_m1 ?_
        cases Option.some.inj hF
        exact jj_iret hJ dX7_top_29
section
abbrev Rm_X7_ones : Room := { frames := 0, cells := 0, slots := 0, locals := 0 }
variable {l : Launch} {D : va_G} {cI cS cII : ClassId}  {A : Nat → Prop} {J : jT}
variable {z_r : Int32}
def q_X7_ones_4 (a0 : Int32)  : Nat → Int32 → Int32 → Option (Int32)
  | 0, _, _ => none
  | n + 1, v2, v1 => if v2 = 0 then (some v1) else (q_X7_ones_4 a0 n (v2 &&& (v2 - 1)) (v1 + 1))
set_option maxRecDepth 100000 in
theorem w_X7_ones_4  {a0 : Int32}  (hJ : jJ l cX7_ones 3 D (tysU cI cS cII) RX7 Rm_X7_ones (some .int) A (some z_r) ([] : va_W) J)  : ∀ (n : Nat) (v2 : Int32) (v1 : Int32), q_X7_ones_4 a0 n v2 v1 = some z_r → J ([] : va_W) 4 [(2, .int v2), (1, .int v1)] [] := by
  intro n
  induction n with
  | zero =>
    intro v2 v1 hF
    exact no_some (show (none : Option (Int32)) = some z_r from hF)
  | succ n ih =>
    intro v2 v1 hF
    rw [q_X7_ones_4.eq_2] at hF
    refine jj_iload_n hJ dX7_ones_4 0 rfl rfl ?_
    refine jj_if_eq hJ 20 dX7_ones_5 rfl (fun c1 => ?_) (fun c1 => ?_)
    · replace hF := ip c1 hF
      refine jj_iload_n hJ dX7_ones_20 1 rfl rfl ?_
      cases Option.some.inj hF
      exact jj_iret hJ dX7_ones_21
    · replace hF := iq c1 hF
      refine jj_iinc hJ dX7_ones_8 1 rfl (v := v1 + 1) (by rw [ic_1]) (Nat.le_of_ble_eq_true rfl) (lv' := [(1, .int (v1 + 1)), (2, .int v2)]) rfl ?_
      refine jj_iload_n hJ dX7_ones_11 1 rfl rfl ?_
      refine jj_iload_n hJ dX7_ones_12 1 rfl rfl ?_
      refine jj_iconst hJ dX7_ones_13 ic_1 ?_
      refine jj_isub hJ dX7_ones_14 ?_
      refine jj_iand hJ dX7_ones_15 ?_
      refine jj_istore_n hJ dX7_ones_16 rfl (Nat.le_of_ble_eq_true rfl) (lv' := [(2, .int (v2 &&& (v2 - 1))), (1, .int (v1 + 1))]) rfl ?_
      refine jj_goto hJ 4 dX7_ones_17 rfl ?_
      exact ih (v2 &&& (v2 - 1)) (v1 + 1) hF
def p_X7_ones (a0 : Int32) : Option (Int32) := q_X7_ones_4 a0 FU a0 0
end
set_option maxRecDepth 100000 in
theorem c_X7_ones (l : Launch) (D : va_G) (cI cS cII : ClassId)   (a0 : Int32) {z_r : Int32} (hF : p_X7_ones a0 = some z_r) : MJ l yX7_ones cX7_ones 3 (some .int) Rm_X7_ones D (tysU cI cS cII) [.int a0] ([] : va_W) (some z_r) ([] : va_W) := by
  refine mj_of (own := RX7) (by decide) rfl (Nat.le_of_ble_eq_true rfl) (fun J hJ => ?_)
  show J ([] : va_W) 0 [(0, .int a0)] []
  unfold p_X7_ones at hF
  refine jj_iconst hJ dX7_ones_0 ic_0 ?_
  refine jj_istore_n hJ dX7_ones_1 rfl (Nat.le_of_ble_eq_true rfl) (lv' := [(1, .int 0), (0, .int a0)]) rfl ?_
  refine jj_iload_n hJ dX7_ones_2 1 rfl rfl ?_
  refine jj_istore_n hJ dX7_ones_3 rfl (Nat.le_of_ble_eq_true rfl) (lv' := [(2, .int a0), (1, .int 0), (0, .int a0)]) rfl ?_
  refine jj_lv hJ [0, 1] (lv' := [(2, .int a0), (1, .int 0)]) rfl ?_
  exact w_X7_ones_4 hJ  FU a0 0 hF
section
abbrev Rm_X7_nth : Room := { frames := 1, cells := 0, slots := 0, locals := 21 }
variable {l : Launch} {D : va_G} {cI cS cII : ClassId}  {A : Nat → Prop} {J : jT}
variable {z_r : Int32}
def q_X7_nth_23 (a0 : Int32) (a1 : Int32)  : Nat → Int32 → Int32 → Option (Int32)
  | 0, _, _ => none
  | n + 1, v3, v2 => (p_X7_has v2 v3).bind fun r2 => if r2 = 0 then (q_X7_nth_23 a0 a1 n (v3 + 1) v2) else (some v3)
set_option maxRecDepth 100000 in
theorem w_X7_nth_23  {a0 : Int32} {a1 : Int32}  (hJ : jJ l cX7_nth 4 D (tysU cI cS cII) RX7 Rm_X7_nth (some .int) A (some z_r) ([] : va_W) J)  : ∀ (n : Nat) (v3 : Int32) (v2 : Int32), q_X7_nth_23 a0 a1 n v3 v2 = some z_r → J ([] : va_W) 23 [(3, .int v3), (2, .int v2)] [] := by
  intro n
  induction n with
  | zero =>
    intro v3 v2 hF
    exact no_some (show (none : Option (Int32)) = some z_r from hF)
  | succ n ih =>
    intro v3 v2 hF
    rw [q_X7_nth_23.eq_2] at hF
    refine jj_iload_n hJ dX7_nth_23 1 rfl rfl ?_
    refine jj_iload_n hJ dX7_nth_24 0 rfl rfl ?_
    obtain ⟨r2, h1, hF⟩ := ob hF
    refine jj_callS0 hJ (c_X7_has l D cI cS cII   v2 v3 h1) dX7_nth_25 kw_182 ⟨Nat.le_of_ble_eq_true rfl, Nat.le_of_ble_eq_true rfl, rfl, rfl⟩ kw_183 kw_184 rfl rfl (Nat.le_of_ble_eq_true rfl) [] rfl rfl ?_
    refine jj_if_ne hJ 37 dX7_nth_28 rfl (fun c3 => ?_) (fun c3 => ?_)
    · replace hF := iq c3 hF
      refine jj_iload_n hJ dX7_nth_37 0 rfl rfl ?_
      cases Option.some.inj hF
      exact jj_iret hJ dX7_nth_38
    · replace hF := ip c3 hF
      refine jj_iinc hJ dX7_nth_31 0 rfl (v := v3 + 1) (by rw [ic_1]) (Nat.le_of_ble_eq_true rfl) (lv' := [(3, .int (v3 + 1)), (2, .int v2)]) rfl ?_
      refine jj_goto hJ 23 dX7_nth_34 rfl ?_
      exact ih (v3 + 1) v2 hF
def q_X7_nth_21 (a0 : Int32) (a1 : Int32)  (v2 : Int32) : Option (Int32) := q_X7_nth_23 a0 a1 FU 0 v2
set_option maxRecDepth 100000 in
theorem w_X7_nth_21  {a0 : Int32} {a1 : Int32}  (hJ : jJ l cX7_nth 4 D (tysU cI cS cII) RX7 Rm_X7_nth (some .int) A (some z_r) ([] : va_W) J)  : ∀ (v2 : Int32), q_X7_nth_21 a0 a1 v2 = some z_r → J ([] : va_W) 21 [(2, .int v2)] [] := by
  intro v2 hF
  unfold q_X7_nth_21 at hF
  refine jj_iconst hJ dX7_nth_21 ic_0 ?_
  refine jj_istore_n hJ dX7_nth_22 rfl (Nat.le_of_ble_eq_true rfl) (lv' := [(3, .int 0), (2, .int v2)]) rfl ?_
  exact w_X7_nth_23 hJ  FU 0 v2 hF
def q_X7_nth_4 (a0 : Int32) (a1 : Int32)  : Nat → Int32 → Int32 → Option (Int32)
  | 0, _, _ => none
  | n + 1, v3, v2 => if a1 ≤ v3 then (q_X7_nth_21 a0 a1 v2) else (q_X7_nth_4 a0 a1 n (v3 + 1) (v2 &&& (v2 - 1)))
set_option maxRecDepth 100000 in
theorem w_X7_nth_4  {a0 : Int32} {a1 : Int32}  (hJ : jJ l cX7_nth 4 D (tysU cI cS cII) RX7 Rm_X7_nth (some .int) A (some z_r) ([] : va_W) J)  : ∀ (n : Nat) (v3 : Int32) (v2 : Int32), q_X7_nth_4 a0 a1 n v3 v2 = some z_r → J ([] : va_W) 4 [(3, .int v3), (2, .int v2), (1, .int a1)] [] := by
  intro n
  induction n with
  | zero =>
    intro v3 v2 hF
    exact no_some (show (none : Option (Int32)) = some z_r from hF)
  | succ n ih =>
    intro v3 v2 hF
    rw [q_X7_nth_4.eq_2] at hF
    refine jj_iload_n hJ dX7_nth_4 0 rfl rfl ?_
    refine jj_iload_n hJ dX7_nth_5 2 rfl rfl ?_
    refine jj_icmp_ge hJ 21 dX7_nth_6 rfl (fun c1 => ?_) (fun c1 => ?_)
    · replace hF := ip c1 hF
      refine jj_lv hJ [1] (lv' := [(2, .int v2)]) rfl ?_
      exact w_X7_nth_21 hJ  v2 hF
    · replace hF := iq c1 hF
      refine jj_iload_n hJ dX7_nth_9 1 rfl rfl ?_
      refine jj_iload_n hJ dX7_nth_10 1 rfl rfl ?_
      refine jj_iconst hJ dX7_nth_11 ic_1 ?_
      refine jj_isub hJ dX7_nth_12 ?_
      refine jj_iand hJ dX7_nth_13 ?_
      refine jj_istore_n hJ dX7_nth_14 rfl (Nat.le_of_ble_eq_true rfl) (lv' := [(2, .int (v2 &&& (v2 - 1))), (3, .int v3), (1, .int a1)]) rfl ?_
      refine jj_iinc hJ dX7_nth_15 1 rfl (v := v3 + 1) (by rw [ic_1]) (Nat.le_of_ble_eq_true rfl) (lv' := [(3, .int (v3 + 1)), (2, .int (v2 &&& (v2 - 1))), (1, .int a1)]) rfl ?_
      refine jj_goto hJ 4 dX7_nth_18 rfl ?_
      exact ih (v3 + 1) (v2 &&& (v2 - 1)) hF
def p_X7_nth (a0 : Int32) (a1 : Int32) : Option (Int32) := q_X7_nth_4 a0 a1 FU 0 a0
end
set_option maxRecDepth 100000 in
theorem c_X7_nth (l : Launch) (D : va_G) (cI cS cII : ClassId)   (a0 : Int32) (a1 : Int32) {z_r : Int32} (hF : p_X7_nth a0 a1 = some z_r) : MJ l yX7_nth cX7_nth 4 (some .int) Rm_X7_nth D (tysU cI cS cII) [.int a0, .int a1] ([] : va_W) (some z_r) ([] : va_W) := by
  refine mj_of (own := RX7) (by decide) rfl (Nat.le_of_ble_eq_true rfl) (fun J hJ => ?_)
  show J ([] : va_W) 0 [(0, .int a0), (1, .int a1)] []
  unfold p_X7_nth at hF
  refine jj_iload_n hJ dX7_nth_0 0 rfl rfl ?_
  refine jj_istore_n hJ dX7_nth_1 rfl (Nat.le_of_ble_eq_true rfl) (lv' := [(2, .int a0), (0, .int a0), (1, .int a1)]) rfl ?_
  refine jj_iconst hJ dX7_nth_2 ic_0 ?_
  refine jj_istore_n hJ dX7_nth_3 rfl (Nat.le_of_ble_eq_true rfl) (lv' := [(3, .int 0), (2, .int a0), (0, .int a0), (1, .int a1)]) rfl ?_
  refine jj_lv hJ [0, 1, 3] (lv' := [(3, .int 0), (2, .int a0), (1, .int a1)]) rfl ?_
  exact w_X7_nth_4 hJ  FU 0 a0 hF
section
abbrev Rm_X7_isAhead : Room := { frames := 0, cells := 0, slots := 0, locals := 0 }
variable {l : Launch} {D : va_G} {cI cS cII : ClassId}  {A : Nat → Prop} {J : jT}
variable {z_r : Int32}
def p_X7_isAhead (a0 : Int32) (a1 : Int32) : Option (Int32) := if (a0 &&& ((a0 ^^^ a1) &&& (-(a0 ^^^ a1)))) = 0 then (some 0) else (some 1)
end
set_option maxRecDepth 100000 in
theorem c_X7_isAhead (l : Launch) (D : va_G) (cI cS cII : ClassId)   (a0 : Int32) (a1 : Int32) {z_r : Int32} (hF : p_X7_isAhead a0 a1 = some z_r) : MJ l yX7_isAhead cX7_isAhead 3 (some .boolean) Rm_X7_isAhead D (tysU cI cS cII) [.int a0, .int a1] ([] : va_W) (some z_r) ([] : va_W) := by
  refine mj_of (own := RX7) (by decide) rfl (Nat.le_of_ble_eq_true rfl) (fun J hJ => ?_)
  show J ([] : va_W) 0 [(0, .int a0), (1, .int a1)] []
  unfold p_X7_isAhead at hF
  refine jj_iload_n hJ dX7_isAhead_0 0 rfl rfl ?_
  refine jj_iload_n hJ dX7_isAhead_1 1 rfl rfl ?_
  refine jj_ixor hJ dX7_isAhead_2 ?_
  refine jj_iload_n hJ dX7_isAhead_3 0 rfl rfl ?_
  refine jj_iload_n hJ dX7_isAhead_4 1 rfl rfl ?_
  refine jj_ixor hJ dX7_isAhead_5 ?_
  refine jj_ineg hJ dX7_isAhead_6 ?_
  refine jj_iand hJ dX7_isAhead_7 ?_
  refine jj_istore_n hJ dX7_isAhead_8 rfl (Nat.le_of_ble_eq_true rfl) (lv' := [(2, .int ((a0 ^^^ a1) &&& (-(a0 ^^^ a1)))), (0, .int a0), (1, .int a1)]) rfl ?_
  refine jj_iload_n hJ dX7_isAhead_9 1 rfl rfl ?_
  refine jj_iload_n hJ dX7_isAhead_10 0 rfl rfl ?_
  refine jj_iand hJ dX7_isAhead_11 ?_
  refine jj_if_eq hJ 19 dX7_isAhead_12 rfl (fun c1 => ?_) (fun c1 => ?_)
  · replace hF := ip c1 hF
    refine jj_iconst hJ dX7_isAhead_19 ic_0 ?_
    cases Option.some.inj hF
    exact jj_zret hJ (Or.inl rfl) dX7_isAhead_20
  · replace hF := iq c1 hF
    refine jj_iconst hJ dX7_isAhead_15 ic_1 ?_
    refine jj_goto hJ 20 dX7_isAhead_16 rfl ?_
    cases Option.some.inj hF
    exact jj_zret hJ (Or.inr rfl) dX7_isAhead_20
section
def W_X7_stands (cI cS cII : ClassId) (DA : Nat → Nat) (D_length : Int32) (D_text : Nat → Int32) (D_levels : Int32) (D_readLevels : Int32) (D_readAsked : Int32) (D_asked : Nat → Int32) (D_readKinds : Nat → Int32) (D_now : Nat → Int32) (D_before : Nat → Int32) (D_undoMany : Int32) (D_kept : Nat → Int32) (D_keptMany : Int32) (D_refused : Int32) (D_roundMany : Int32) (D_roundOver : Int32) (D_round : Nat → Int32) (D_terms : Int32) (D_termLevel : Nat → Int32) (D_termAdd : Nat → Int32) (D_spot : Int32) (D_number : Nat → Int32) (D_reach : Nat → Int32) (D_edge : Nat → Int32) (D_by : Nat → Int32) : va_W := [((DA 0), .inr (7, [.int D_length, .ref (DA 1), .int D_levels, .int D_readLevels, .int D_readAsked, .ref (DA 2), .ref (DA 3), .ref (DA 4), .ref (DA 5), .int D_undoMany, .ref (DA 6), .int D_keptMany, .int D_refused, .int D_roundMany, .int D_roundOver, .ref (DA 7), .int D_terms, .ref (DA 8), .ref (DA 9), .int D_spot, .ref (DA 10), .ref (DA 11), .ref (DA 12), .ref (DA 13)])), ((DA 1), .inl (cI, 200, .inl D_text)), ((DA 2), .inl (cI, 160, .inl D_asked)), ((DA 3), .inl (cI, 10, .inl D_readKinds)), ((DA 4), .inl (cI, 59, .inl D_now)), ((DA 5), .inl (cI, 472, .inl D_before)), ((DA 6), .inl (cI, 118, .inl D_kept)), ((DA 7), .inl (cI, 12, .inl D_round)), ((DA 8), .inl (cI, 6, .inl D_termLevel)), ((DA 9), .inl (cI, 6, .inl D_termAdd)), ((DA 10), .inl (cI, 3, .inl D_number)), ((DA 11), .inl (cI, 100, .inl D_reach)), ((DA 12), .inl (cI, 100, .inl D_edge)), ((DA 13), .inl (cI, 110, .inl D_by))]
abbrev Rm_X7_stands : Room := { frames := 2, cells := 0, slots := 0, locals := 47 }
variable {l : Launch} {D : va_G} {cI cS cII : ClassId} {DA : Nat → Nat} {A : Nat → Prop} {J : jT}
variable {z_r : Int32} {z_D_reach : Nat → Int32} {z_D_edge : Nat → Int32}
def q_X7_stands_129 (D_levels : Int32) (D_now : Nat → Int32) (a1 : Int32) (a2 : Int32) (a3 : Int32) (a4 : Int32) (k60 : Int32 → Int32 → Int32 → (Nat → Int32) → (Nat → Int32) → Option (Int32 × (Nat → Int32) × (Nat → Int32))) (v7 : Int32) (v6 : Int32) (v5 : Int32) (s0 : Int32) (D_reach : Nat → Int32) (D_edge : Nat → Int32) : Option (Int32 × (Nat → Int32) × (Nat → Int32)) := if s0 = 0 then (k60 (v7 + 1) v6 v5 D_reach D_edge) else ((p_X7_findBut D_levels D_now D_reach D_edge v7).bind fun (g3, g4) => (rd g3 100 ((10 * a3) + a1)).bind fun x5 => (p_X7_clashes x5 v5).bind fun r8 => if r8 = 0 then (k60 (v7 + 1) v7 v5 g3 g4) else (k60 (v7 + 1) v6 v5 g3 g4))
set_option maxRecDepth 100000 in
theorem w_X7_stands_129 {D_length : Int32} {D_text : Nat → Int32} {D_levels : Int32} {D_readLevels : Int32} {D_readAsked : Int32} {D_asked : Nat → Int32} {D_readKinds : Nat → Int32} {D_now : Nat → Int32} {D_before : Nat → Int32} {D_undoMany : Int32} {D_kept : Nat → Int32} {D_keptMany : Int32} {D_refused : Int32} {D_roundMany : Int32} {D_roundOver : Int32} {D_round : Nat → Int32} {D_terms : Int32} {D_termLevel : Nat → Int32} {D_termAdd : Nat → Int32} {D_spot : Int32} {D_number : Nat → Int32} {D_by : Nat → Int32} {a1 : Int32} {a2 : Int32} {a3 : Int32} {a4 : Int32} {k60 : Int32 → Int32 → Int32 → (Nat → Int32) → (Nat → Int32) → Option (Int32 × (Nat → Int32) × (Nat → Int32))} (hJ : jJ l cX7_stands 10 D (tysU cI cS cII) RX7 Rm_X7_stands (some .int) A (some z_r) (W_X7_stands cI cS cII DA D_length D_text D_levels D_readLevels D_readAsked D_asked D_readKinds D_now D_before D_undoMany D_kept D_keptMany D_refused D_roundMany D_roundOver D_round D_terms D_termLevel D_termAdd D_spot D_number z_D_reach z_D_edge D_by) J) (hk60 : ∀ (v7 : Int32) (v6 : Int32) (v5 : Int32) (D_reach : Nat → Int32) (D_edge : Nat → Int32), k60 v7 v6 v5 D_reach D_edge = some (z_r, z_D_reach, z_D_edge) → J (W_X7_stands cI cS cII DA D_length D_text D_levels D_readLevels D_readAsked D_asked D_readKinds D_now D_before D_undoMany D_kept D_keptMany D_refused D_roundMany D_roundOver D_round D_terms D_termLevel D_termAdd D_spot D_number D_reach D_edge D_by) 60 [(7, .int v7), (6, .int v6), (5, .int v5), (0, .ref (DA 0)), (1, .int a1), (3, .int a3), (4, .int a4)] []) : ∀ (v7 : Int32) (v6 : Int32) (v5 : Int32) (s0 : Int32) (D_reach : Nat → Int32) (D_edge : Nat → Int32), q_X7_stands_129 D_levels D_now a1 a2 a3 a4 k60 v7 v6 v5 s0 D_reach D_edge = some (z_r, z_D_reach, z_D_edge) → J (W_X7_stands cI cS cII DA D_length D_text D_levels D_readLevels D_readAsked D_asked D_readKinds D_now D_before D_undoMany D_kept D_keptMany D_refused D_roundMany D_roundOver D_round D_terms D_termLevel D_termAdd D_spot D_number D_reach D_edge D_by) 129 [(7, .int v7), (6, .int v6), (5, .int v5), (0, .ref (DA 0)), (1, .int a1), (3, .int a3), (4, .int a4)] [.int s0] := by
  intro v7 v6 v5 s0 D_reach D_edge hF
  unfold q_X7_stands_129 at hF
  refine jj_istore hJ dX7_stands_129 (Nat.le_of_ble_eq_true rfl) (lv' := [(9, .int s0), (7, .int v7), (6, .int v6), (5, .int v5), (0, .ref (DA 0)), (1, .int a1), (3, .int a3), (4, .int a4)]) rfl ?_
  refine jj_iload hJ dX7_stands_131 0 rfl ?_
  refine jj_if_eq hJ 170 dX7_stands_133 rfl (fun c1 => ?_) (fun c1 => ?_)
  · replace hF := ip c1 hF
    refine jj_iinc hJ dX7_stands_170 1 rfl (v := v7 + 1) (by rw [ic_1]) (Nat.le_of_ble_eq_true rfl) (lv' := [(7, .int (v7 + 1)), (9, .int s0), (6, .int v6), (5, .int v5), (0, .ref (DA 0)), (1, .int a1), (3, .int a3), (4, .int a4)]) rfl ?_
    refine jj_goto hJ 60 dX7_stands_173 rfl ?_
    refine jj_lv hJ [0, 2, 3, 4, 5, 6, 7] (lv' := [(7, .int (v7 + 1)), (6, .int v6), (5, .int v5), (0, .ref (DA 0)), (1, .int a1), (3, .int a3), (4, .int a4)]) rfl ?_
    exact hk60 (v7 + 1) v6 v5 D_reach D_edge hF
  · replace hF := iq c1 hF
    refine jj_aload_n hJ dX7_stands_136 4 rfl rfl ?_
    refine jj_iload hJ dX7_stands_137 1 rfl ?_
    obtain ⟨⟨g3, g4⟩, h2, hF⟩ := ob hF
    refine jj_callV hJ (c_X7_findBut l D cI cS cII DA D_length D_text D_levels D_readLevels D_readAsked D_asked D_readKinds D_now D_before D_undoMany D_kept D_keptMany D_refused D_roundMany D_roundOver D_round D_terms D_termLevel D_termAdd D_spot D_number D_reach D_edge D_by v7 h2) dX7_stands_139 kw_191 ⟨Nat.le_of_ble_eq_true rfl, Nat.le_of_ble_eq_true rfl, rfl, rfl⟩ kw_190 kw_192 kw_193 0 rfl rfl rfl rfl (Nat.le_of_ble_eq_true rfl) [0, 1, 2, 3, 4, 5, 6, 7, 8, 9, 10, 11, 12, 13] rfl rfl (wn := (W_X7_stands cI cS cII DA D_length D_text D_levels D_readLevels D_readAsked D_asked D_readKinds D_now D_before D_undoMany D_kept D_keptMany D_refused D_roundMany D_roundOver D_round D_terms D_termLevel D_termAdd D_spot D_number g3 g4 D_by)) (jNew_sel rfl [some 0, some 1, some 2, some 3, some 4, some 5, some 6, some 7, some 8, some 9, some 10, some 11, some 12, some 13] (by decide +kernel) rfl) ?_
    refine jj_aload_n hJ dX7_stands_142 4 rfl rfl ?_
    refine jj_get hJ lay_X7 dX7_stands_143 0 21 rfl rfl (Nat.le_of_ble_eq_true rfl) kw_185 rfl ?_
    refine jj_bipush hJ dX7_stands_146 bp_10 ?_
    refine jj_iload_n hJ dX7_stands_148 6 rfl rfl ?_
    refine jj_imul hJ dX7_stands_149 ?_
    refine jj_iload_n hJ dX7_stands_150 5 rfl rfl ?_
    refine jj_iadd hJ dX7_stands_151 ?_
    obtain ⟨x5, h6, hF⟩ := ob hF
    refine jj_iald hJ dX7_stands_152 11 0 rfl rfl h6 ?_
    refine jj_iload hJ dX7_stands_153 3 rfl ?_
    obtain ⟨r8, h7, hF⟩ := ob hF
    refine jj_callS0 hJ (c_X7_clashes l D cI cS cII   x5 v5 h7) dX7_stands_155 kw_206 ⟨Nat.le_of_ble_eq_true rfl, Nat.le_of_ble_eq_true rfl, rfl, rfl⟩ kw_207 kw_208 rfl rfl (Nat.le_of_ble_eq_true rfl) [] rfl rfl ?_
    refine jj_if_eq hJ 166 dX7_stands_158 rfl (fun c9 => ?_) (fun c9 => ?_)
    · replace hF := ip c9 hF
      refine jj_iload hJ dX7_stands_166 1 rfl ?_
      refine jj_istore hJ dX7_stands_168 (Nat.le_of_ble_eq_true rfl) (lv' := [(6, .int v7), (9, .int s0), (7, .int v7), (5, .int v5), (0, .ref (DA 0)), (1, .int a1), (3, .int a3), (4, .int a4)]) rfl ?_
      refine jj_iinc hJ dX7_stands_170 2 rfl (v := v7 + 1) (by rw [ic_1]) (Nat.le_of_ble_eq_true rfl) (lv' := [(7, .int (v7 + 1)), (6, .int v7), (9, .int s0), (5, .int v5), (0, .ref (DA 0)), (1, .int a1), (3, .int a3), (4, .int a4)]) rfl ?_
      refine jj_goto hJ 60 dX7_stands_173 rfl ?_
      refine jj_lv hJ [0, 1, 3, 4, 5, 6, 7] (lv' := [(7, .int (v7 + 1)), (6, .int v7), (5, .int v5), (0, .ref (DA 0)), (1, .int a1), (3, .int a3), (4, .int a4)]) rfl ?_
      exact hk60 (v7 + 1) v7 v5 g3 g4 hF
    · replace hF := iq c9 hF
      refine jj_iload hJ dX7_stands_161 2 rfl ?_
      refine jj_goto hJ 168 dX7_stands_163 rfl ?_
      refine jj_istore hJ dX7_stands_168 (Nat.le_of_ble_eq_true rfl) (lv' := [(6, .int v6), (9, .int s0), (7, .int v7), (5, .int v5), (0, .ref (DA 0)), (1, .int a1), (3, .int a3), (4, .int a4)]) rfl ?_
      refine jj_iinc hJ dX7_stands_170 2 rfl (v := v7 + 1) (by rw [ic_1]) (Nat.le_of_ble_eq_true rfl) (lv' := [(7, .int (v7 + 1)), (6, .int v6), (9, .int s0), (5, .int v5), (0, .ref (DA 0)), (1, .int a1), (3, .int a3), (4, .int a4)]) rfl ?_
      refine jj_goto hJ 60 dX7_stands_173 rfl ?_
      refine jj_lv hJ [0, 1, 3, 4, 5, 6, 7] (lv' := [(7, .int (v7 + 1)), (6, .int v6), (5, .int v5), (0, .ref (DA 0)), (1, .int a1), (3, .int a3), (4, .int a4)]) rfl ?_
      exact hk60 (v7 + 1) v6 v5 g3 g4 hF
def q_X7_stands_124 (D_levels : Int32) (D_now : Nat → Int32) (a1 : Int32) (a2 : Int32) (a3 : Int32) (a4 : Int32) (k60 : Int32 → Int32 → Int32 → (Nat → Int32) → (Nat → Int32) → Option (Int32 × (Nat → Int32) × (Nat → Int32))) (v7 : Int32) (v6 : Int32) (v5 : Int32) (D_reach : Nat → Int32) (D_edge : Nat → Int32) : Option (Int32 × (Nat → Int32) × (Nat → Int32)) := q_X7_stands_129 D_levels D_now a1 a2 a3 a4 k60 v7 v6 v5 1 D_reach D_edge
set_option maxRecDepth 100000 in
theorem w_X7_stands_124 {D_length : Int32} {D_text : Nat → Int32} {D_levels : Int32} {D_readLevels : Int32} {D_readAsked : Int32} {D_asked : Nat → Int32} {D_readKinds : Nat → Int32} {D_now : Nat → Int32} {D_before : Nat → Int32} {D_undoMany : Int32} {D_kept : Nat → Int32} {D_keptMany : Int32} {D_refused : Int32} {D_roundMany : Int32} {D_roundOver : Int32} {D_round : Nat → Int32} {D_terms : Int32} {D_termLevel : Nat → Int32} {D_termAdd : Nat → Int32} {D_spot : Int32} {D_number : Nat → Int32} {D_by : Nat → Int32} {a1 : Int32} {a2 : Int32} {a3 : Int32} {a4 : Int32} {k60 : Int32 → Int32 → Int32 → (Nat → Int32) → (Nat → Int32) → Option (Int32 × (Nat → Int32) × (Nat → Int32))} (hJ : jJ l cX7_stands 10 D (tysU cI cS cII) RX7 Rm_X7_stands (some .int) A (some z_r) (W_X7_stands cI cS cII DA D_length D_text D_levels D_readLevels D_readAsked D_asked D_readKinds D_now D_before D_undoMany D_kept D_keptMany D_refused D_roundMany D_roundOver D_round D_terms D_termLevel D_termAdd D_spot D_number z_D_reach z_D_edge D_by) J) (hk60 : ∀ (v7 : Int32) (v6 : Int32) (v5 : Int32) (D_reach : Nat → Int32) (D_edge : Nat → Int32), k60 v7 v6 v5 D_reach D_edge = some (z_r, z_D_reach, z_D_edge) → J (W_X7_stands cI cS cII DA D_length D_text D_levels D_readLevels D_readAsked D_asked D_readKinds D_now D_before D_undoMany D_kept D_keptMany D_refused D_roundMany D_roundOver D_round D_terms D_termLevel D_termAdd D_spot D_number D_reach D_edge D_by) 60 [(7, .int v7), (6, .int v6), (5, .int v5), (0, .ref (DA 0)), (1, .int a1), (3, .int a3), (4, .int a4)] []) : ∀ (v7 : Int32) (v6 : Int32) (v5 : Int32) (D_reach : Nat → Int32) (D_edge : Nat → Int32), q_X7_stands_124 D_levels D_now a1 a2 a3 a4 k60 v7 v6 v5 D_reach D_edge = some (z_r, z_D_reach, z_D_edge) → J (W_X7_stands cI cS cII DA D_length D_text D_levels D_readLevels D_readAsked D_asked D_readKinds D_now D_before D_undoMany D_kept D_keptMany D_refused D_roundMany D_roundOver D_round D_terms D_termLevel D_termAdd D_spot D_number D_reach D_edge D_by) 124 [(7, .int v7), (6, .int v6), (5, .int v5), (0, .ref (DA 0)), (1, .int a1), (3, .int a3), (4, .int a4)] [] := by
  intro v7 v6 v5 D_reach D_edge hF
  unfold q_X7_stands_124 at hF
  refine jj_iconst hJ dX7_stands_124 ic_1 ?_
  refine jj_goto hJ 129 dX7_stands_125 rfl ?_
  exact w_X7_stands_129 hJ hk60 v7 v6 v5 1 D_reach D_edge hF
def q_X7_stands_128 (D_levels : Int32) (D_now : Nat → Int32) (a1 : Int32) (a2 : Int32) (a3 : Int32) (a4 : Int32) (k60 : Int32 → Int32 → Int32 → (Nat → Int32) → (Nat → Int32) → Option (Int32 × (Nat → Int32) × (Nat → Int32))) (v7 : Int32) (v6 : Int32) (v5 : Int32) (D_reach : Nat → Int32) (D_edge : Nat → Int32) : Option (Int32 × (Nat → Int32) × (Nat → Int32)) := q_X7_stands_129 D_levels D_now a1 a2 a3 a4 k60 v7 v6 v5 0 D_reach D_edge
set_option maxRecDepth 100000 in
theorem w_X7_stands_128 {D_length : Int32} {D_text : Nat → Int32} {D_levels : Int32} {D_readLevels : Int32} {D_readAsked : Int32} {D_asked : Nat → Int32} {D_readKinds : Nat → Int32} {D_now : Nat → Int32} {D_before : Nat → Int32} {D_undoMany : Int32} {D_kept : Nat → Int32} {D_keptMany : Int32} {D_refused : Int32} {D_roundMany : Int32} {D_roundOver : Int32} {D_round : Nat → Int32} {D_terms : Int32} {D_termLevel : Nat → Int32} {D_termAdd : Nat → Int32} {D_spot : Int32} {D_number : Nat → Int32} {D_by : Nat → Int32} {a1 : Int32} {a2 : Int32} {a3 : Int32} {a4 : Int32} {k60 : Int32 → Int32 → Int32 → (Nat → Int32) → (Nat → Int32) → Option (Int32 × (Nat → Int32) × (Nat → Int32))} (hJ : jJ l cX7_stands 10 D (tysU cI cS cII) RX7 Rm_X7_stands (some .int) A (some z_r) (W_X7_stands cI cS cII DA D_length D_text D_levels D_readLevels D_readAsked D_asked D_readKinds D_now D_before D_undoMany D_kept D_keptMany D_refused D_roundMany D_roundOver D_round D_terms D_termLevel D_termAdd D_spot D_number z_D_reach z_D_edge D_by) J) (hk60 : ∀ (v7 : Int32) (v6 : Int32) (v5 : Int32) (D_reach : Nat → Int32) (D_edge : Nat → Int32), k60 v7 v6 v5 D_reach D_edge = some (z_r, z_D_reach, z_D_edge) → J (W_X7_stands cI cS cII DA D_length D_text D_levels D_readLevels D_readAsked D_asked D_readKinds D_now D_before D_undoMany D_kept D_keptMany D_refused D_roundMany D_roundOver D_round D_terms D_termLevel D_termAdd D_spot D_number D_reach D_edge D_by) 60 [(7, .int v7), (6, .int v6), (5, .int v5), (0, .ref (DA 0)), (1, .int a1), (3, .int a3), (4, .int a4)] []) : ∀ (v7 : Int32) (v6 : Int32) (v5 : Int32) (D_reach : Nat → Int32) (D_edge : Nat → Int32), q_X7_stands_128 D_levels D_now a1 a2 a3 a4 k60 v7 v6 v5 D_reach D_edge = some (z_r, z_D_reach, z_D_edge) → J (W_X7_stands cI cS cII DA D_length D_text D_levels D_readLevels D_readAsked D_asked D_readKinds D_now D_before D_undoMany D_kept D_keptMany D_refused D_roundMany D_roundOver D_round D_terms D_termLevel D_termAdd D_spot D_number D_reach D_edge D_by) 128 [(7, .int v7), (6, .int v6), (5, .int v5), (0, .ref (DA 0)), (1, .int a1), (3, .int a3), (4, .int a4)] [] := by
  intro v7 v6 v5 D_reach D_edge hF
  unfold q_X7_stands_128 at hF
  refine jj_iconst hJ dX7_stands_128 ic_0 ?_
  exact w_X7_stands_129 hJ hk60 v7 v6 v5 0 D_reach D_edge hF
def q_X7_stands_176 (D_levels : Int32) (D_now : Nat → Int32) (a1 : Int32) (a2 : Int32) (a3 : Int32) (a4 : Int32)  (v6 : Int32) (D_reach : Nat → Int32) (D_edge : Nat → Int32) : Option (Int32 × (Nat → Int32) × (Nat → Int32)) := if v6 = ((-4)) then (some ((-4), D_reach, D_edge)) else (if 0 ≤ a4 then ((p_X7_ones v6).bind fun r4 => if r4 ≤ a4 then (some ((-4), D_reach, D_edge)) else ((p_X7_nth v6 a4).bind fun r7 => some (r7, D_reach, D_edge))) else ((p_X7_ones v6).bind fun r9 => some (r9, D_reach, D_edge)))
set_option maxRecDepth 100000 in
theorem w_X7_stands_176 {D_length : Int32} {D_text : Nat → Int32} {D_levels : Int32} {D_readLevels : Int32} {D_readAsked : Int32} {D_asked : Nat → Int32} {D_readKinds : Nat → Int32} {D_now : Nat → Int32} {D_before : Nat → Int32} {D_undoMany : Int32} {D_kept : Nat → Int32} {D_keptMany : Int32} {D_refused : Int32} {D_roundMany : Int32} {D_roundOver : Int32} {D_round : Nat → Int32} {D_terms : Int32} {D_termLevel : Nat → Int32} {D_termAdd : Nat → Int32} {D_spot : Int32} {D_number : Nat → Int32} {D_by : Nat → Int32} {a1 : Int32} {a2 : Int32} {a3 : Int32} {a4 : Int32}  (hJ : jJ l cX7_stands 10 D (tysU cI cS cII) RX7 Rm_X7_stands (some .int) A (some z_r) (W_X7_stands cI cS cII DA D_length D_text D_levels D_readLevels D_readAsked D_asked D_readKinds D_now D_before D_undoMany D_kept D_keptMany D_refused D_roundMany D_roundOver D_round D_terms D_termLevel D_termAdd D_spot D_number z_D_reach z_D_edge D_by) J)  : ∀ (v6 : Int32) (D_reach : Nat → Int32) (D_edge : Nat → Int32), q_X7_stands_176 D_levels D_now a1 a2 a3 a4 v6 D_reach D_edge = some (z_r, z_D_reach, z_D_edge) → J (W_X7_stands cI cS cII DA D_length D_text D_levels D_readLevels D_readAsked D_asked D_readKinds D_now D_before D_undoMany D_kept D_keptMany D_refused D_roundMany D_roundOver D_round D_terms D_termLevel D_termAdd D_spot D_number D_reach D_edge D_by) 176 [(6, .int v6), (4, .int a4)] [] := by
  intro v6 D_reach D_edge hF
  unfold q_X7_stands_176 at hF
  refine jj_iload hJ dX7_stands_176 0 rfl ?_
  refine jj_bipush hJ dX7_stands_178 bp_m4 ?_
  refine jj_icmp_ne hJ 186 dX7_stands_180 rfl (fun c1 => ?_) (fun c1 => ?_)
  · replace hF := iq c1 hF
    refine jj_iload hJ dX7_stands_186 1 rfl ?_
    refine jj_if_ge hJ 199 dX7_stands_188 rfl (fun c2 => ?_) (fun c2 => ?_)
    · replace hF := ip c2 hF
      refine jj_iload hJ dX7_stands_199 1 rfl ?_
      refine jj_iload hJ dX7_stands_201 0 rfl ?_
      obtain ⟨r4, h3, hF⟩ := ob hF
      refine jj_callS0 hJ (c_X7_ones l D cI cS cII   v6 h3) dX7_stands_203 kw_264 ⟨Nat.le_of_ble_eq_true rfl, Nat.le_of_ble_eq_true rfl, rfl, rfl⟩ kw_265 kw_266 rfl rfl (Nat.le_of_ble_eq_true rfl) [] rfl rfl ?_
      refine jj_icmp_ge hJ 219 dX7_stands_206 rfl (fun c5 => ?_) (fun c5 => ?_)
      · replace hF := ip c5 hF
        refine jj_bipush hJ dX7_stands_219 bp_m4 ?_
        cases Option.some.inj hF
        exact jj_iret hJ dX7_stands_221
      · replace hF := iq c5 hF
        refine jj_iload hJ dX7_stands_209 0 rfl ?_
        refine jj_iload hJ dX7_stands_211 1 rfl ?_
        obtain ⟨r7, h6, hF⟩ := ob hF
        refine jj_callS0 hJ (c_X7_nth l D cI cS cII   v6 a4 h6) dX7_stands_213 kw_270 ⟨Nat.le_of_ble_eq_true rfl, Nat.le_of_ble_eq_true rfl, rfl, rfl⟩ kw_271 kw_272 rfl rfl (Nat.le_of_ble_eq_true rfl) [] rfl rfl ?_
        refine jj_goto hJ 221 dX7_stands_216 rfl ?_
        cases Option.some.inj hF
        exact jj_iret hJ dX7_stands_221
    · replace hF := iq c2 hF
      refine jj_iload hJ dX7_stands_191 0 rfl ?_
      obtain ⟨r9, h8, hF⟩ := ob hF
      refine jj_callS0 hJ (c_X7_ones l D cI cS cII   v6 h8) dX7_stands_193 kw_264 ⟨Nat.le_of_ble_eq_true rfl, Nat.le_of_ble_eq_true rfl, rfl, rfl⟩ kw_265 kw_266 rfl rfl (Nat.le_of_ble_eq_true rfl) [] rfl rfl ?_
      refine jj_goto hJ 221 dX7_stands_196 rfl ?_
      cases Option.some.inj hF
      exact jj_iret hJ dX7_stands_221
  · replace hF := ip c1 hF
    refine jj_bipush hJ dX7_stands_183 bp_m4 ?_
    cases Option.some.inj hF
    exact jj_iret hJ dX7_stands_185
def q_X7_stands_60 (D_levels : Int32) (D_now : Nat → Int32) (a1 : Int32) (a2 : Int32) (a3 : Int32) (a4 : Int32)  : Nat → Int32 → Int32 → Int32 → (Nat → Int32) → (Nat → Int32) → Option (Int32 × (Nat → Int32) × (Nat → Int32))
  | 0, _, _, _, _, _ => none
  | n + 1, v7, v6, v5, D_reach, D_edge => (rd D_now 59 10).bind fun x1 => if (1 <<< (x1 &&& 31)) ≤ v7 then (q_X7_stands_176 D_levels D_now a1 a2 a3 a4 v6 D_reach D_edge) else ((p_X7_ones v7).bind fun r5 => if 4 ≤ r5 then (q_X7_stands_128 D_levels D_now a1 a2 a3 a4 (q_X7_stands_60 D_levels D_now a1 a2 a3 a4 n) v7 v6 v5 D_reach D_edge) else (if v6 = ((-4)) then (q_X7_stands_124 D_levels D_now a1 a2 a3 a4 (q_X7_stands_60 D_levels D_now a1 a2 a3 a4 n) v7 v6 v5 D_reach D_edge) else ((p_X7_ones v6).bind fun r9 => if r5 < r9 then (q_X7_stands_124 D_levels D_now a1 a2 a3 a4 (q_X7_stands_60 D_levels D_now a1 a2 a3 a4 n) v7 v6 v5 D_reach D_edge) else ((p_X7_ones v6).bind fun r12 => if r5 = r12 then ((p_X7_isAhead v7 v6).bind fun r15 => if r15 = 0 then (q_X7_stands_128 D_levels D_now a1 a2 a3 a4 (q_X7_stands_60 D_levels D_now a1 a2 a3 a4 n) v7 v6 v5 D_reach D_edge) else (q_X7_stands_124 D_levels D_now a1 a2 a3 a4 (q_X7_stands_60 D_levels D_now a1 a2 a3 a4 n) v7 v6 v5 D_reach D_edge)) else (q_X7_stands_128 D_levels D_now a1 a2 a3 a4 (q_X7_stands_60 D_levels D_now a1 a2 a3 a4 n) v7 v6 v5 D_reach D_edge)))))
set_option maxRecDepth 100000 in
theorem w_X7_stands_60 {D_length : Int32} {D_text : Nat → Int32} {D_levels : Int32} {D_readLevels : Int32} {D_readAsked : Int32} {D_asked : Nat → Int32} {D_readKinds : Nat → Int32} {D_now : Nat → Int32} {D_before : Nat → Int32} {D_undoMany : Int32} {D_kept : Nat → Int32} {D_keptMany : Int32} {D_refused : Int32} {D_roundMany : Int32} {D_roundOver : Int32} {D_round : Nat → Int32} {D_terms : Int32} {D_termLevel : Nat → Int32} {D_termAdd : Nat → Int32} {D_spot : Int32} {D_number : Nat → Int32} {D_by : Nat → Int32} {a1 : Int32} {a2 : Int32} {a3 : Int32} {a4 : Int32}  (hJ : jJ l cX7_stands 10 D (tysU cI cS cII) RX7 Rm_X7_stands (some .int) A (some z_r) (W_X7_stands cI cS cII DA D_length D_text D_levels D_readLevels D_readAsked D_asked D_readKinds D_now D_before D_undoMany D_kept D_keptMany D_refused D_roundMany D_roundOver D_round D_terms D_termLevel D_termAdd D_spot D_number z_D_reach z_D_edge D_by) J)  : ∀ (n : Nat) (v7 : Int32) (v6 : Int32) (v5 : Int32) (D_reach : Nat → Int32) (D_edge : Nat → Int32), q_X7_stands_60 D_levels D_now a1 a2 a3 a4 n v7 v6 v5 D_reach D_edge = some (z_r, z_D_reach, z_D_edge) → J (W_X7_stands cI cS cII DA D_length D_text D_levels D_readLevels D_readAsked D_asked D_readKinds D_now D_before D_undoMany D_kept D_keptMany D_refused D_roundMany D_roundOver D_round D_terms D_termLevel D_termAdd D_spot D_number D_reach D_edge D_by) 60 [(7, .int v7), (6, .int v6), (5, .int v5), (0, .ref (DA 0)), (1, .int a1), (3, .int a3), (4, .int a4)] [] := by
  intro n
  induction n with
  | zero =>
    intro v7 v6 v5 D_reach D_edge hF
    exact no_some (show (none : Option (Int32 × (Nat → Int32) × (Nat → Int32))) = some (z_r, z_D_reach, z_D_edge) from hF)
  | succ n ih =>
    intro v7 v6 v5 D_reach D_edge hF
    rw [q_X7_stands_60.eq_2] at hF
    refine jj_iload hJ dX7_stands_60 0 rfl ?_
    refine jj_iconst hJ dX7_stands_62 ic_1 ?_
    refine jj_aload_n hJ dX7_stands_63 3 rfl rfl ?_
    refine jj_get hJ lay_X7 dX7_stands_64 0 7 rfl rfl (Nat.le_of_ble_eq_true rfl) kw_178 rfl ?_
    refine jj_bipush hJ dX7_stands_67 bp_10 ?_
    obtain ⟨x1, h2, hF⟩ := ob hF
    refine jj_iald hJ dX7_stands_69 4 0 rfl rfl h2 ?_
    refine jj_ishl hJ dX7_stands_70 ?_
    refine jj_icmp_ge hJ 176 dX7_stands_71 rfl (fun c3 => ?_) (fun c3 => ?_)
    · replace hF := ip c3 hF
      refine jj_lv hJ [1, 6] (lv' := [(6, .int v6), (4, .int a4)]) rfl ?_
      exact w_X7_stands_176 hJ  v6 D_reach D_edge hF
    · replace hF := iq c3 hF
      refine jj_iload hJ dX7_stands_74 0 rfl ?_
      obtain ⟨r5, h4, hF⟩ := ob hF
      refine jj_callS0 hJ (c_X7_ones l D cI cS cII   v7 h4) dX7_stands_76 kw_264 ⟨Nat.le_of_ble_eq_true rfl, Nat.le_of_ble_eq_true rfl, rfl, rfl⟩ kw_265 kw_266 rfl rfl (Nat.le_of_ble_eq_true rfl) [] rfl rfl ?_
      refine jj_istore hJ dX7_stands_79 (Nat.le_of_ble_eq_true rfl) (lv' := [(8, .int r5), (7, .int v7), (6, .int v6), (5, .int v5), (0, .ref (DA 0)), (1, .int a1), (3, .int a3), (4, .int a4)]) rfl ?_
      refine jj_iload hJ dX7_stands_81 0 rfl ?_
      refine jj_iconst hJ dX7_stands_83 ic_4 ?_
      refine jj_icmp_ge hJ 128 dX7_stands_84 rfl (fun c6 => ?_) (fun c6 => ?_)
      · replace hF := ip c6 hF
        refine jj_lv hJ [1, 2, 3, 4, 5, 6, 7] (lv' := [(7, .int v7), (6, .int v6), (5, .int v5), (0, .ref (DA 0)), (1, .int a1), (3, .int a3), (4, .int a4)]) rfl ?_
        exact w_X7_stands_128 hJ (fun v7 v6 v5 D_reach D_edge => ih v7 v6 v5 D_reach D_edge) v7 v6 v5 D_reach D_edge hF
      · replace hF := iq c6 hF
        refine jj_iload hJ dX7_stands_87 2 rfl ?_
        refine jj_bipush hJ dX7_stands_89 bp_m4 ?_
        refine jj_icmp_eq hJ 124 dX7_stands_91 rfl (fun c7 => ?_) (fun c7 => ?_)
        · replace hF := ip c7 hF
          refine jj_lv hJ [1, 2, 3, 4, 5, 6, 7] (lv' := [(7, .int v7), (6, .int v6), (5, .int v5), (0, .ref (DA 0)), (1, .int a1), (3, .int a3), (4, .int a4)]) rfl ?_
          exact w_X7_stands_124 hJ (fun v7 v6 v5 D_reach D_edge => ih v7 v6 v5 D_reach D_edge) v7 v6 v5 D_reach D_edge hF
        · replace hF := iq c7 hF
          refine jj_iload hJ dX7_stands_94 0 rfl ?_
          refine jj_iload hJ dX7_stands_96 2 rfl ?_
          obtain ⟨r9, h8, hF⟩ := ob hF
          refine jj_callS0 hJ (c_X7_ones l D cI cS cII   v6 h8) dX7_stands_98 kw_264 ⟨Nat.le_of_ble_eq_true rfl, Nat.le_of_ble_eq_true rfl, rfl, rfl⟩ kw_265 kw_266 rfl rfl (Nat.le_of_ble_eq_true rfl) [] rfl rfl ?_
          refine jj_icmp_lt hJ 124 dX7_stands_101 rfl (fun c10 => ?_) (fun c10 => ?_)
          · replace hF := ip c10 hF
            refine jj_lv hJ [1, 2, 3, 4, 5, 6, 7] (lv' := [(7, .int v7), (6, .int v6), (5, .int v5), (0, .ref (DA 0)), (1, .int a1), (3, .int a3), (4, .int a4)]) rfl ?_
            exact w_X7_stands_124 hJ (fun v7 v6 v5 D_reach D_edge => ih v7 v6 v5 D_reach D_edge) v7 v6 v5 D_reach D_edge hF
          · replace hF := iq c10 hF
            refine jj_iload hJ dX7_stands_104 0 rfl ?_
            refine jj_iload hJ dX7_stands_106 2 rfl ?_
            obtain ⟨r12, h11, hF⟩ := ob hF
            refine jj_callS0 hJ (c_X7_ones l D cI cS cII   v6 h11) dX7_stands_108 kw_264 ⟨Nat.le_of_ble_eq_true rfl, Nat.le_of_ble_eq_true rfl, rfl, rfl⟩ kw_265 kw_266 rfl rfl (Nat.le_of_ble_eq_true rfl) [] rfl rfl ?_
            refine jj_icmp_ne hJ 128 dX7_stands_111 rfl (fun c13 => ?_) (fun c13 => ?_)
            · replace hF := iq c13 hF
              refine jj_lv hJ [1, 2, 3, 4, 5, 6, 7] (lv' := [(7, .int v7), (6, .int v6), (5, .int v5), (0, .ref (DA 0)), (1, .int a1), (3, .int a3), (4, .int a4)]) rfl ?_
              exact w_X7_stands_128 hJ (fun v7 v6 v5 D_reach D_edge => ih v7 v6 v5 D_reach D_edge) v7 v6 v5 D_reach D_edge hF
            · replace hF := ip c13 hF
              refine jj_iload hJ dX7_stands_114 1 rfl ?_
              refine jj_iload hJ dX7_stands_116 2 rfl ?_
              obtain ⟨r15, h14, hF⟩ := ob hF
              refine jj_callS0 hJ (c_X7_isAhead l D cI cS cII   v7 v6 h14) dX7_stands_118 kw_267 ⟨Nat.le_of_ble_eq_true rfl, Nat.le_of_ble_eq_true rfl, rfl, rfl⟩ kw_268 kw_269 rfl rfl (Nat.le_of_ble_eq_true rfl) [] rfl rfl ?_
              refine jj_if_eq hJ 128 dX7_stands_121 rfl (fun c16 => ?_) (fun c16 => ?_)
              · replace hF := ip c16 hF
                refine jj_lv hJ [1, 2, 3, 4, 5, 6, 7] (lv' := [(7, .int v7), (6, .int v6), (5, .int v5), (0, .ref (DA 0)), (1, .int a1), (3, .int a3), (4, .int a4)]) rfl ?_
                exact w_X7_stands_128 hJ (fun v7 v6 v5 D_reach D_edge => ih v7 v6 v5 D_reach D_edge) v7 v6 v5 D_reach D_edge hF
              · replace hF := iq c16 hF
                refine jj_lv hJ [1, 2, 3, 4, 5, 6, 7] (lv' := [(7, .int v7), (6, .int v6), (5, .int v5), (0, .ref (DA 0)), (1, .int a1), (3, .int a3), (4, .int a4)]) rfl ?_
                exact w_X7_stands_124 hJ (fun v7 v6 v5 D_reach D_edge => ih v7 v6 v5 D_reach D_edge) v7 v6 v5 D_reach D_edge hF
def p_X7_stands (D_levels : Int32) (D_now : Nat → Int32) (D_reach : Nat → Int32) (D_edge : Nat → Int32) (a1 : Int32) (a2 : Int32) (a3 : Int32) (a4 : Int32) : Option (Int32 × (Nat → Int32) × (Nat → Int32)) := (p_X7_isLevel D_levels a1).bind fun r2 => if r2 = 0 then (some ((-1), D_reach, D_edge)) else ((p_X7_isAdd a2).bind fun r5 => if r5 = 0 then (some ((-1), D_reach, D_edge)) else ((p_X7_isLevel D_levels a3).bind fun r8 => if r8 = 0 then (some ((-1), D_reach, D_edge)) else (if a1 = a3 then (some ((-1), D_reach, D_edge)) else ((p_X7_in ((a4 : Int32).toInt64) ((-1)) ((2))).bind fun r12 => if r12 = 0 then (some ((-1), D_reach, D_edge)) else ((p_X7_weightTo D_now a2 a3).bind fun r15 => q_X7_stands_60 D_levels D_now a1 a2 a3 a4 FU 0 ((-4)) r15 D_reach D_edge)))))
end
set_option maxRecDepth 100000 in
theorem c_X7_stands (l : Launch) (D : va_G) (cI cS cII : ClassId) (DA : Nat → Nat) (D_length : Int32) (D_text : Nat → Int32) (D_levels : Int32) (D_readLevels : Int32) (D_readAsked : Int32) (D_asked : Nat → Int32) (D_readKinds : Nat → Int32) (D_now : Nat → Int32) (D_before : Nat → Int32) (D_undoMany : Int32) (D_kept : Nat → Int32) (D_keptMany : Int32) (D_refused : Int32) (D_roundMany : Int32) (D_roundOver : Int32) (D_round : Nat → Int32) (D_terms : Int32) (D_termLevel : Nat → Int32) (D_termAdd : Nat → Int32) (D_spot : Int32) (D_number : Nat → Int32) (D_reach : Nat → Int32) (D_edge : Nat → Int32) (D_by : Nat → Int32) (a1 : Int32) (a2 : Int32) (a3 : Int32) (a4 : Int32) {z_r : Int32} {z_D_reach : Nat → Int32} {z_D_edge : Nat → Int32} (hF : p_X7_stands D_levels D_now D_reach D_edge a1 a2 a3 a4 = some (z_r, z_D_reach, z_D_edge)) : MJ l yX7_stands cX7_stands 10 (some .int) Rm_X7_stands D (tysU cI cS cII) [.ref (DA 0), .int a1, .int a2, .int a3, .int a4] (W_X7_stands cI cS cII DA D_length D_text D_levels D_readLevels D_readAsked D_asked D_readKinds D_now D_before D_undoMany D_kept D_keptMany D_refused D_roundMany D_roundOver D_round D_terms D_termLevel D_termAdd D_spot D_number D_reach D_edge D_by) (some z_r) (W_X7_stands cI cS cII DA D_length D_text D_levels D_readLevels D_readAsked D_asked D_readKinds D_now D_before D_undoMany D_kept D_keptMany D_refused D_roundMany D_roundOver D_round D_terms D_termLevel D_termAdd D_spot D_number z_D_reach z_D_edge D_by) := by
  refine mj_of (own := RX7) (by decide) rfl (Nat.le_of_ble_eq_true rfl) (fun J hJ => ?_)
  show J (W_X7_stands cI cS cII DA D_length D_text D_levels D_readLevels D_readAsked D_asked D_readKinds D_now D_before D_undoMany D_kept D_keptMany D_refused D_roundMany D_roundOver D_round D_terms D_termLevel D_termAdd D_spot D_number D_reach D_edge D_by) 0 [(0, .ref (DA 0)), (1, .int a1), (2, .int a2), (3, .int a3), (4, .int a4)] []
  unfold p_X7_stands at hF
  refine jj_aload_n hJ dX7_stands_0 0 rfl rfl ?_
  refine jj_iload_n hJ dX7_stands_1 1 rfl rfl ?_
  obtain ⟨r2, h1, hF⟩ := ob hF
  refine jj_callV0 hJ (c_X7_isLevel l D cI cS cII DA D_length D_text D_levels D_readLevels D_readAsked D_asked D_readKinds D_now D_before D_undoMany D_kept D_keptMany D_refused D_roundMany D_roundOver D_round D_terms D_termLevel D_termAdd D_spot D_number D_reach D_edge D_by a1 h1) dX7_stands_2 kw_232 ⟨Nat.le_of_ble_eq_true rfl, Nat.le_of_ble_eq_true rfl, rfl, rfl⟩ kw_231 kw_233 kw_234 0 rfl rfl rfl rfl (Nat.le_of_ble_eq_true rfl) [0, 1, 2, 3, 4, 5, 6, 7, 8, 9, 10, 11, 12, 13] rfl rfl ?_
  refine jj_if_eq hJ 43 dX7_stands_5 rfl (fun c3 => ?_) (fun c3 => ?_)
  · replace hF := ip c3 hF
    refine jj_iconst hJ dX7_stands_43 ic_m1 ?_
    cases Option.some.inj hF
    exact jj_iret hJ dX7_stands_44
  · replace hF := iq c3 hF
    refine jj_iload_n hJ dX7_stands_8 2 rfl rfl ?_
    obtain ⟨r5, h4, hF⟩ := ob hF
    refine jj_callS0 hJ (c_X7_isAdd l D cI cS cII   a2 h4) dX7_stands_9 kw_249 ⟨Nat.le_of_ble_eq_true rfl, Nat.le_of_ble_eq_true rfl, rfl, rfl⟩ kw_250 kw_251 rfl rfl (Nat.le_of_ble_eq_true rfl) [] rfl rfl ?_
    refine jj_if_eq hJ 43 dX7_stands_12 rfl (fun c6 => ?_) (fun c6 => ?_)
    · replace hF := ip c6 hF
      refine jj_iconst hJ dX7_stands_43 ic_m1 ?_
      cases Option.some.inj hF
      exact jj_iret hJ dX7_stands_44
    · replace hF := iq c6 hF
      refine jj_aload_n hJ dX7_stands_15 0 rfl rfl ?_
      refine jj_iload_n hJ dX7_stands_16 3 rfl rfl ?_
      obtain ⟨r8, h7, hF⟩ := ob hF
      refine jj_callV0 hJ (c_X7_isLevel l D cI cS cII DA D_length D_text D_levels D_readLevels D_readAsked D_asked D_readKinds D_now D_before D_undoMany D_kept D_keptMany D_refused D_roundMany D_roundOver D_round D_terms D_termLevel D_termAdd D_spot D_number D_reach D_edge D_by a3 h7) dX7_stands_17 kw_232 ⟨Nat.le_of_ble_eq_true rfl, Nat.le_of_ble_eq_true rfl, rfl, rfl⟩ kw_231 kw_233 kw_234 0 rfl rfl rfl rfl (Nat.le_of_ble_eq_true rfl) [0, 1, 2, 3, 4, 5, 6, 7, 8, 9, 10, 11, 12, 13] rfl rfl ?_
      refine jj_if_eq hJ 43 dX7_stands_20 rfl (fun c9 => ?_) (fun c9 => ?_)
      · replace hF := ip c9 hF
        refine jj_iconst hJ dX7_stands_43 ic_m1 ?_
        cases Option.some.inj hF
        exact jj_iret hJ dX7_stands_44
      · replace hF := iq c9 hF
        refine jj_iload_n hJ dX7_stands_23 1 rfl rfl ?_
        refine jj_iload_n hJ dX7_stands_24 3 rfl rfl ?_
        refine jj_icmp_eq hJ 43 dX7_stands_25 rfl (fun c10 => ?_) (fun c10 => ?_)
        · replace hF := ip c10 hF
          refine jj_iconst hJ dX7_stands_43 ic_m1 ?_
          cases Option.some.inj hF
          exact jj_iret hJ dX7_stands_44
        · replace hF := iq c10 hF
          refine jj_iload hJ dX7_stands_28 4 rfl ?_
          refine jj_i2l hJ dX7_stands_30 ?_
          refine jj_ldc2 hJ dX7_stands_31 kw_257 ?_
          refine jj_ldc2 hJ dX7_stands_34 kw_152 ?_
          obtain ⟨r12, h11, hF⟩ := ob hF
          refine jj_callS0 hJ (c_X7_in l D cI cS cII   ((a4 : Int32).toInt64) ((-1)) ((2)) h11) dX7_stands_37 kw_140 ⟨Nat.le_of_ble_eq_true rfl, Nat.le_of_ble_eq_true rfl, rfl, rfl⟩ kw_141 kw_142 rfl rfl (Nat.le_of_ble_eq_true rfl) [] rfl rfl ?_
          refine jj_if_ne hJ 45 dX7_stands_40 rfl (fun c13 => ?_) (fun c13 => ?_)
          · replace hF := iq c13 hF
            refine jj_aload_n hJ dX7_stands_45 0 rfl rfl ?_
            refine jj_iload_n hJ dX7_stands_46 2 rfl rfl ?_
            refine jj_iload_n hJ dX7_stands_47 3 rfl rfl ?_
            obtain ⟨r15, h14, hF⟩ := ob hF
            refine jj_callV0 hJ (c_X7_weightTo l D cI cS cII DA D_length D_text D_levels D_readLevels D_readAsked D_asked D_readKinds D_now D_before D_undoMany D_kept D_keptMany D_refused D_roundMany D_roundOver D_round D_terms D_termLevel D_termAdd D_spot D_number D_reach D_edge D_by a2 a3 h14) dX7_stands_48 kw_199 ⟨Nat.le_of_ble_eq_true rfl, Nat.le_of_ble_eq_true rfl, rfl, rfl⟩ kw_198 kw_200 kw_201 0 rfl rfl rfl rfl (Nat.le_of_ble_eq_true rfl) [0, 1, 2, 3, 4, 5, 6, 7, 8, 9, 10, 11, 12, 13] rfl rfl ?_
            refine jj_istore hJ dX7_stands_51 (Nat.le_of_ble_eq_true rfl) (lv' := [(5, .int r15), (0, .ref (DA 0)), (1, .int a1), (2, .int a2), (3, .int a3), (4, .int a4)]) rfl ?_
            refine jj_bipush hJ dX7_stands_53 bp_m4 ?_
            refine jj_istore hJ dX7_stands_55 (Nat.le_of_ble_eq_true rfl) (lv' := [(6, .int ((-4))), (5, .int r15), (0, .ref (DA 0)), (1, .int a1), (2, .int a2), (3, .int a3), (4, .int a4)]) rfl ?_
            refine jj_iconst hJ dX7_stands_57 ic_0 ?_
            refine jj_istore hJ dX7_stands_58 (Nat.le_of_ble_eq_true rfl) (lv' := [(7, .int 0), (6, .int ((-4))), (5, .int r15), (0, .ref (DA 0)), (1, .int a1), (2, .int a2), (3, .int a3), (4, .int a4)]) rfl ?_
            refine jj_lv hJ [0, 1, 2, 3, 4, 6, 7] (lv' := [(7, .int 0), (6, .int ((-4))), (5, .int r15), (0, .ref (DA 0)), (1, .int a1), (3, .int a3), (4, .int a4)]) rfl ?_
            exact w_X7_stands_60 hJ  FU 0 ((-4)) r15 D_reach D_edge hF
          · replace hF := ip c13 hF
            refine jj_iconst hJ dX7_stands_43 ic_m1 ?_
            cases Option.some.inj hF
            exact jj_iret hJ dX7_stands_44
section
def W_X7_term (cI cS cII : ClassId) (DA : Nat → Nat) (D_length : Int32) (D_text : Nat → Int32) (D_levels : Int32) (D_readLevels : Int32) (D_readAsked : Int32) (D_asked : Nat → Int32) (D_readKinds : Nat → Int32) (D_now : Nat → Int32) (D_before : Nat → Int32) (D_undoMany : Int32) (D_kept : Nat → Int32) (D_keptMany : Int32) (D_refused : Int32) (D_roundMany : Int32) (D_roundOver : Int32) (D_round : Nat → Int32) (D_terms : Int32) (D_termLevel : Nat → Int32) (D_termAdd : Nat → Int32) (D_spot : Int32) (D_number : Nat → Int32) (D_reach : Nat → Int32) (D_edge : Nat → Int32) (D_by : Nat → Int32) : va_W := [((DA 0), .inr (7, [.int D_length, .ref (DA 1), .int D_levels, .int D_readLevels, .int D_readAsked, .ref (DA 2), .ref (DA 3), .ref (DA 4), .ref (DA 5), .int D_undoMany, .ref (DA 6), .int D_keptMany, .int D_refused, .int D_roundMany, .int D_roundOver, .ref (DA 7), .int D_terms, .ref (DA 8), .ref (DA 9), .int D_spot, .ref (DA 10), .ref (DA 11), .ref (DA 12), .ref (DA 13)])), ((DA 1), .inl (cI, 200, .inl D_text)), ((DA 2), .inl (cI, 160, .inl D_asked)), ((DA 3), .inl (cI, 10, .inl D_readKinds)), ((DA 4), .inl (cI, 59, .inl D_now)), ((DA 5), .inl (cI, 472, .inl D_before)), ((DA 6), .inl (cI, 118, .inl D_kept)), ((DA 7), .inl (cI, 12, .inl D_round)), ((DA 8), .inl (cI, 6, .inl D_termLevel)), ((DA 9), .inl (cI, 6, .inl D_termAdd)), ((DA 10), .inl (cI, 3, .inl D_number)), ((DA 11), .inl (cI, 100, .inl D_reach)), ((DA 12), .inl (cI, 100, .inl D_edge)), ((DA 13), .inl (cI, 110, .inl D_by))]
abbrev Rm_X7_term : Room := { frames := 2, cells := 0, slots := 0, locals := 46 }
variable {l : Launch} {D : va_G} {cI cS cII : ClassId} {DA : Nat → Nat} {A : Nat → Prop} {J : jT}
variable {z_r : Int32} {z_D_terms : Int32} {z_D_termLevel : Nat → Int32} {z_D_termAdd : Nat → Int32}
def p_X7_term (D_levels : Int32) (D_terms : Int32) (D_termLevel : Nat → Int32) (D_termAdd : Nat → Int32) (a1 : Int32) (a2 : Int32) : Option (Int32 × Int32 × (Nat → Int32) × (Nat → Int32)) := (p_X7_isLevel D_levels a1).bind fun r2 => if r2 = 0 then (some ((-1), D_terms, D_termLevel, D_termAdd)) else ((p_X7_isAdd a2).bind fun r5 => if r5 = 0 then (some ((-1), D_terms, D_termLevel, D_termAdd)) else (if D_terms = 6 then (some ((-3), D_terms, D_termLevel, D_termAdd)) else ((wr D_termLevel 6 D_terms a1).bind fun g8 => (wr D_termAdd 6 D_terms a2).bind fun g10 => some (D_terms + 1, D_terms + 1, g8, g10))))
end
set_option maxRecDepth 100000 in
theorem c_X7_term (l : Launch) (D : va_G) (cI cS cII : ClassId) (DA : Nat → Nat) (D_length : Int32) (D_text : Nat → Int32) (D_levels : Int32) (D_readLevels : Int32) (D_readAsked : Int32) (D_asked : Nat → Int32) (D_readKinds : Nat → Int32) (D_now : Nat → Int32) (D_before : Nat → Int32) (D_undoMany : Int32) (D_kept : Nat → Int32) (D_keptMany : Int32) (D_refused : Int32) (D_roundMany : Int32) (D_roundOver : Int32) (D_round : Nat → Int32) (D_terms : Int32) (D_termLevel : Nat → Int32) (D_termAdd : Nat → Int32) (D_spot : Int32) (D_number : Nat → Int32) (D_reach : Nat → Int32) (D_edge : Nat → Int32) (D_by : Nat → Int32) (a1 : Int32) (a2 : Int32) {z_r : Int32} {z_D_terms : Int32} {z_D_termLevel : Nat → Int32} {z_D_termAdd : Nat → Int32} (hF : p_X7_term D_levels D_terms D_termLevel D_termAdd a1 a2 = some (z_r, z_D_terms, z_D_termLevel, z_D_termAdd)) : MJ l yX7_term cX7_term 3 (some .int) Rm_X7_term D (tysU cI cS cII) [.ref (DA 0), .int a1, .int a2] (W_X7_term cI cS cII DA D_length D_text D_levels D_readLevels D_readAsked D_asked D_readKinds D_now D_before D_undoMany D_kept D_keptMany D_refused D_roundMany D_roundOver D_round D_terms D_termLevel D_termAdd D_spot D_number D_reach D_edge D_by) (some z_r) (W_X7_term cI cS cII DA D_length D_text D_levels D_readLevels D_readAsked D_asked D_readKinds D_now D_before D_undoMany D_kept D_keptMany D_refused D_roundMany D_roundOver D_round z_D_terms z_D_termLevel z_D_termAdd D_spot D_number D_reach D_edge D_by) := by
  refine mj_of (own := RX7) (by decide) rfl (Nat.le_of_ble_eq_true rfl) (fun J hJ => ?_)
  show J (W_X7_term cI cS cII DA D_length D_text D_levels D_readLevels D_readAsked D_asked D_readKinds D_now D_before D_undoMany D_kept D_keptMany D_refused D_roundMany D_roundOver D_round D_terms D_termLevel D_termAdd D_spot D_number D_reach D_edge D_by) 0 [(0, .ref (DA 0)), (1, .int a1), (2, .int a2)] []
  unfold p_X7_term at hF
  refine jj_aload_n hJ dX7_term_0 0 rfl rfl ?_
  refine jj_iload_n hJ dX7_term_1 1 rfl rfl ?_
  obtain ⟨r2, h1, hF⟩ := ob hF
  refine jj_callV0 hJ (c_X7_isLevel l D cI cS cII DA D_length D_text D_levels D_readLevels D_readAsked D_asked D_readKinds D_now D_before D_undoMany D_kept D_keptMany D_refused D_roundMany D_roundOver D_round D_terms D_termLevel D_termAdd D_spot D_number D_reach D_edge D_by a1 h1) dX7_term_2 kw_232 ⟨Nat.le_of_ble_eq_true rfl, Nat.le_of_ble_eq_true rfl, rfl, rfl⟩ kw_231 kw_233 kw_234 0 rfl rfl rfl rfl (Nat.le_of_ble_eq_true rfl) [0, 1, 2, 3, 4, 5, 6, 7, 8, 9, 10, 11, 12, 13] rfl rfl ?_
  refine jj_if_eq hJ 15 dX7_term_5 rfl (fun c3 => ?_) (fun c3 => ?_)
  · replace hF := ip c3 hF
    refine jj_iconst hJ dX7_term_15 ic_m1 ?_
    cases Option.some.inj hF
    exact jj_iret hJ dX7_term_16
  · replace hF := iq c3 hF
    refine jj_iload_n hJ dX7_term_8 2 rfl rfl ?_
    obtain ⟨r5, h4, hF⟩ := ob hF
    refine jj_callS0 hJ (c_X7_isAdd l D cI cS cII   a2 h4) dX7_term_9 kw_249 ⟨Nat.le_of_ble_eq_true rfl, Nat.le_of_ble_eq_true rfl, rfl, rfl⟩ kw_250 kw_251 rfl rfl (Nat.le_of_ble_eq_true rfl) [] rfl rfl ?_
    refine jj_if_ne hJ 17 dX7_term_12 rfl (fun c6 => ?_) (fun c6 => ?_)
    · replace hF := iq c6 hF
      refine jj_aload_n hJ dX7_term_17 0 rfl rfl ?_
      refine jj_get hJ lay_X7 dX7_term_18 0 16 rfl rfl (Nat.le_of_ble_eq_true rfl) kw_222 rfl ?_
      refine jj_bipush hJ dX7_term_21 bp_6 ?_
      refine jj_icmp_ne hJ 29 dX7_term_23 rfl (fun c7 => ?_) (fun c7 => ?_)
      · replace hF := iq c7 hF
        refine jj_aload_n hJ dX7_term_29 0 rfl rfl ?_
        refine jj_get hJ lay_X7 dX7_term_30 0 17 rfl rfl (Nat.le_of_ble_eq_true rfl) kw_273 rfl ?_
        refine jj_aload_n hJ dX7_term_33 0 rfl rfl ?_
        refine jj_get hJ lay_X7 dX7_term_34 0 16 rfl rfl (Nat.le_of_ble_eq_true rfl) kw_222 rfl ?_
        refine jj_iload_n hJ dX7_term_37 1 rfl rfl ?_
        obtain ⟨g8, h9, hF⟩ := ob hF
        refine jj_iast hJ dX7_term_38 8 0 rfl rfl h9 (wn := (W_X7_term cI cS cII DA D_length D_text D_levels D_readLevels D_readAsked D_asked D_readKinds D_now D_before D_undoMany D_kept D_keptMany D_refused D_roundMany D_roundOver D_round D_terms g8 D_termAdd D_spot D_number D_reach D_edge D_by)) rfl ?_
        refine jj_aload_n hJ dX7_term_39 0 rfl rfl ?_
        refine jj_get hJ lay_X7 dX7_term_40 0 18 rfl rfl (Nat.le_of_ble_eq_true rfl) kw_274 rfl ?_
        refine jj_aload_n hJ dX7_term_43 0 rfl rfl ?_
        refine jj_get hJ lay_X7 dX7_term_44 0 16 rfl rfl (Nat.le_of_ble_eq_true rfl) kw_222 rfl ?_
        refine jj_iload_n hJ dX7_term_47 2 rfl rfl ?_
        obtain ⟨g10, h11, hF⟩ := ob hF
        refine jj_iast hJ dX7_term_48 9 0 rfl rfl h11 (wn := (W_X7_term cI cS cII DA D_length D_text D_levels D_readLevels D_readAsked D_asked D_readKinds D_now D_before D_undoMany D_kept D_keptMany D_refused D_roundMany D_roundOver D_round D_terms g8 g10 D_spot D_number D_reach D_edge D_by)) rfl ?_
        refine jj_aload_n hJ dX7_term_49 0 rfl rfl ?_
        refine jj_dup hJ dX7_term_50 rfl ?_
        refine jj_get hJ lay_X7 dX7_term_51 0 16 rfl rfl (Nat.le_of_ble_eq_true rfl) kw_222 rfl ?_
        refine jj_iconst hJ dX7_term_54 ic_1 ?_
        refine jj_iadd hJ dX7_term_55 ?_
        refine jj_puti hJ lay_X7 tyX7 tyX7_ok nmX7 dX7_term_56 0 16 rfl rfl (Nat.le_of_ble_eq_true rfl) kw_222 rfl rfl (Nat.le_of_ble_eq_true rfl) (wn := (W_X7_term cI cS cII DA D_length D_text D_levels D_readLevels D_readAsked D_asked D_readKinds D_now D_before D_undoMany D_kept D_keptMany D_refused D_roundMany D_roundOver D_round (D_terms + 1) g8 g10 D_spot D_number D_reach D_edge D_by)) rfl ?_
        refine jj_aload_n hJ dX7_term_59 0 rfl rfl ?_
        refine jj_get hJ lay_X7 dX7_term_60 0 16 rfl rfl (Nat.le_of_ble_eq_true rfl) kw_222 rfl ?_
        cases Option.some.inj hF
        exact jj_iret hJ dX7_term_63
      · replace hF := ip c7 hF
        refine jj_bipush hJ dX7_term_26 bp_m3 ?_
        cases Option.some.inj hF
        exact jj_iret hJ dX7_term_28
    · replace hF := ip c6 hF
      refine jj_iconst hJ dX7_term_15 ic_m1 ?_
      cases Option.some.inj hF
      exact jj_iret hJ dX7_term_16
