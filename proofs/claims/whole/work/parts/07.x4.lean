theorem ic_0 : Int32.ofInt (0) = (0 : Int32) := by decide
theorem ic_1 : Int32.ofInt (1) = (1 : Int32) := by decide
theorem kw_0 : Cond.fieldLink RX4 30 (TX4 4).1 (TX4 4).2.1 (TX4 4).2.2.1 ∈ lw_tbl := tb1 (i := 64) rfl
theorem bp_10 : (Int8.ofInt (10)).toInt32 = (10 : Int32) := by decide
theorem kw_1 : Cond.fieldLink RX4 9 (TX4 0).1 (TX4 0).2.1 (TX4 0).2.2.1 ∈ lw_tbl := tb1 (i := 49) rfl
theorem ic_3 : Int32.ofInt (3) = (3 : Int32) := by decide
theorem kw_2 : Cond.fieldLink RX4 34 (TX4 5).1 (TX4 5).2.1 (TX4 5).2.2.1 ∈ lw_tbl := tb1 (i := 67) rfl
theorem bp_16 : (Int8.ofInt (16)).toInt32 = (16 : Int32) := by decide
theorem kw_3 : Cond.fieldLink RX4 15 (TX4 1).1 (TX4 1).2.1 (TX4 1).2.2.1 ∈ lw_tbl := tb1 (i := 51) rfl
theorem kw_4 : Cond.fieldLink RX4 18 (TX4 2).1 (TX4 2).2.1 (TX4 2).2.2.1 ∈ lw_tbl := tb1 (i := 55) rfl
theorem kw_5 : Cond.fieldLink RX4 21 (TX4 3).1 (TX4 3).2.1 (TX4 3).2.2.1 ∈ lw_tbl := tb1 (i := 59) rfl
theorem kw_6 : Cond.constant RX4 37 (-1000000) ∈ lw_tbl := tb2 (i := 18) rfl
theorem kw_7 : cwOk yJ7_fill_53178 cJ7_fill_53178 4 none 2 := ⟨tb2 (i := 21) rfl, tb1 (i := 12) rfl, by decide, by decide, by decide +kernel⟩
theorem kw_8 : Cond.methodLink RX4 38 yJ7_fill_53178 ∈ lw_tbl := tb2 (i := 19) rfl
theorem kw_9 : Cond.static yJ7_fill_53178 ∈ lw_tbl := tb2 (i := 20) rfl
theorem kw_10 : Cond.methodLink RX4 44 yX4_lengthen ∈ lw_tbl := tb2 (i := 22) rfl
theorem kw_11 : cwOk yX4_lengthen cX4_lengthen 4 (some .boolean) 2 := ⟨tb2 (i := 25) rfl, tb1 (i := 3) rfl, by decide, by decide, by decide +kernel⟩
theorem kw_12 : Cond.instanceMethod yX4_lengthen ∈ lw_tbl := tb2 (i := 24) rfl
theorem kw_13 : Cond.selects RX4 yX4_lengthen yX4_lengthen ∈ lw_tbl := tsel (i := 10) (q := (⟨"UniverseLevels$State", "lengthen", "(I[I)Z"⟩, 6)) rfl
theorem kw_14 : Cond.methodLink RX4 24 arraycopyName ∈ lw_tbl := tb2 (i := 67) rfl
theorem kw_15 : Cond.native arraycopyName ∈ lw_tbl := tb2 (i := 69) rfl
theorem kw_16 : Cond.static arraycopyName ∈ lw_tbl := tb2 (i := 68) rfl
theorem kw_17 : Cond.initialized "java/lang/System" ∈ lw_tbl := tb1 (i := 14) rfl
section
def W_J7_fill_53178 (cI cS cII : ClassId) (YA : Nat) (Y_x : Nat → Int32) : va_W := [(YA, .inl (cI, 10, .inl Y_x))]
abbrev Rm_J7_fill_53178 : Room := { frames := 0, cells := 0, slots := 0, locals := 0 }
variable {l : Launch} {D : va_G} {cI cS cII : ClassId} {YA : Nat} {A : Nat → Prop} {J : jT}
variable {z_Y_x : Nat → Int32}
def q_J7_fill_53178_5 (a1 : Int32)  : Nat → Int32 → Int32 → (Nat → Int32) → Option (Nat → Int32)
  | 0, _, _, _ => none
  | n + 1, v3, v2, Y_x => if v3 ≤ v2 then (some Y_x) else ((wr Y_x 10 v2 a1).bind fun g2 => q_J7_fill_53178_5 a1 n v3 (v2 + 1) g2)
set_option maxRecDepth 100000 in
theorem w_J7_fill_53178_5  {a1 : Int32}  (hJ : jJ l cJ7_fill_53178 4 D (tysU cI cS cII) RJ7 Rm_J7_fill_53178 none A none (W_J7_fill_53178 cI cS cII YA z_Y_x) J)  : ∀ (n : Nat) (v3 : Int32) (v2 : Int32) (Y_x : Nat → Int32), q_J7_fill_53178_5 a1 n v3 v2 Y_x = some z_Y_x → J (W_J7_fill_53178 cI cS cII YA Y_x) 5 [(3, .int v3), (2, .int v2), (0, .ref YA), (1, .int a1)] [] := by
  intro n
  induction n with
  | zero =>
    intro v3 v2 Y_x hF
    exact no_some (show (none : Option (Nat → Int32)) = some z_Y_x from hF)
  | succ n ih =>
    intro v3 v2 Y_x hF
    rw [q_J7_fill_53178_5.eq_2] at hF
    refine jj_iload_n hJ dJ7_fill_53178_5 1 rfl rfl ?_
    refine jj_iload_n hJ dJ7_fill_53178_6 0 rfl rfl ?_
    refine jj_icmp_ge hJ 20 dJ7_fill_53178_7 rfl (fun c1 => ?_) (fun c1 => ?_)
    · replace hF := ip c1 hF
      cases Option.some.inj hF
      exact jj_vret hJ dJ7_fill_53178_20
    · replace hF := iq c1 hF
      refine jj_aload_n hJ dJ7_fill_53178_10 2 rfl rfl ?_
      refine jj_iload_n hJ dJ7_fill_53178_11 1 rfl rfl ?_
      refine jj_iload_n hJ dJ7_fill_53178_12 3 rfl rfl ?_
      obtain ⟨g2, h3, hF⟩ := ob hF
      refine jj_iast hJ dJ7_fill_53178_13 0 0 rfl rfl h3 (wn := (W_J7_fill_53178 cI cS cII YA g2)) rfl ?_
      refine jj_iinc hJ dJ7_fill_53178_14 1 rfl (v := v2 + 1) (by rw [ic_1]) (Nat.le_of_ble_eq_true rfl) (lv' := [(2, .int (v2 + 1)), (3, .int v3), (0, .ref YA), (1, .int a1)]) rfl ?_
      refine jj_goto hJ 5 dJ7_fill_53178_17 rfl ?_
      refine jj_lv hJ [1, 0, 2, 3] (lv' := [(3, .int v3), (2, .int (v2 + 1)), (0, .ref YA), (1, .int a1)]) rfl ?_
      exact ih v3 (v2 + 1) g2 hF
def p_J7_fill_53178 (Y_x : Nat → Int32) (a1 : Int32) : Option (Nat → Int32) := q_J7_fill_53178_5 a1 FU 10 0 Y_x
end
set_option maxRecDepth 100000 in
theorem c_J7_fill_53178 (l : Launch) (D : va_G) (cI cS cII : ClassId) (YA : Nat) (Y_x : Nat → Int32) (a1 : Int32) {z_Y_x : Nat → Int32} (hF : p_J7_fill_53178 Y_x a1 = some z_Y_x) : MJ l yJ7_fill_53178 cJ7_fill_53178 4 none Rm_J7_fill_53178 D (tysU cI cS cII) [.ref YA, .int a1] (W_J7_fill_53178 cI cS cII YA Y_x) none (W_J7_fill_53178 cI cS cII YA z_Y_x) := by
  refine mj_of (own := RJ7) (by decide) rfl (Nat.le_of_ble_eq_true rfl) (fun J hJ => ?_)
  show J (W_J7_fill_53178 cI cS cII YA Y_x) 0 [(0, .ref YA), (1, .int a1)] []
  unfold p_J7_fill_53178 at hF
  refine jj_iconst hJ dJ7_fill_53178_0 ic_0 ?_
  refine jj_istore_n hJ dJ7_fill_53178_1 rfl (Nat.le_of_ble_eq_true rfl) (lv' := [(2, .int 0), (0, .ref YA), (1, .int a1)]) rfl ?_
  refine jj_aload_n hJ dJ7_fill_53178_2 1 rfl rfl ?_
  refine jj_alen hJ dJ7_fill_53178_3 0 0 rfl rfl (v := 10) rfl ?_
  refine jj_istore_n hJ dJ7_fill_53178_4 rfl (Nat.le_of_ble_eq_true rfl) (lv' := [(3, .int 10), (2, .int 0), (0, .ref YA), (1, .int a1)]) rfl ?_
  exact w_J7_fill_53178_5 hJ  FU 10 0 Y_x hF
section
def W_X4_addLevel (cI cS cII : ClassId) (SA : Nat → Nat) (S_k : Nat → Int32) (S_f : Nat → Int32) (S_t : Nat → Int32) (S_w : Nat → Int32) (S_l : Int32) (S_b : Int32) : va_W := [((SA 0), .inr (4, [.ref (SA 1), .ref (SA 2), .ref (SA 3), .ref (SA 4), .int S_l, .int S_b])), ((SA 1), .inl (cI, 10, .inl S_k)), ((SA 2), .inl (cI, 16, .inl S_f)), ((SA 3), .inl (cI, 16, .inl S_t)), ((SA 4), .inl (cI, 16, .inl S_w))]
abbrev Rm_X4_addLevel : Room := { frames := 0, cells := 0, slots := 0, locals := 0 }
variable {l : Launch} {D : va_G} {cI cS cII : ClassId} {SA : Nat → Nat} {A : Nat → Prop} {J : jT}
variable {z_S_k : Nat → Int32} {z_S_l : Int32}
def p_X4_addLevel (S_k : Nat → Int32) (S_l : Int32) (a1 : Int32) : Option ((Nat → Int32) × Int32) := if 10 ≤ S_l then (some (S_k, S_l)) else ((wr S_k 10 S_l a1).bind fun g2 => some (g2, S_l + 1))
end
set_option maxRecDepth 100000 in
theorem c_X4_addLevel (l : Launch) (D : va_G) (cI cS cII : ClassId) (SA : Nat → Nat) (S_k : Nat → Int32) (S_f : Nat → Int32) (S_t : Nat → Int32) (S_w : Nat → Int32) (S_l : Int32) (S_b : Int32) (a1 : Int32) {z_S_k : Nat → Int32} {z_S_l : Int32} (hF : p_X4_addLevel S_k S_l a1 = some (z_S_k, z_S_l)) : MJ l yX4_addLevel cX4_addLevel 2 none Rm_X4_addLevel D (tysU cI cS cII) [.ref (SA 0), .int a1] (W_X4_addLevel cI cS cII SA S_k S_f S_t S_w S_l S_b) none (W_X4_addLevel cI cS cII SA z_S_k S_f S_t S_w z_S_l S_b) := by
  refine mj_of (own := RX4) (by decide) rfl (Nat.le_of_ble_eq_true rfl) (fun J hJ => ?_)
  show J (W_X4_addLevel cI cS cII SA S_k S_f S_t S_w S_l S_b) 0 [(0, .ref (SA 0)), (1, .int a1)] []
  unfold p_X4_addLevel at hF
  refine jj_aload_n hJ dX4_addLevel_0 0 rfl rfl ?_
  refine jj_get hJ lay_X4 dX4_addLevel_1 0 4 rfl rfl (Nat.le_of_ble_eq_true rfl) kw_0 rfl ?_
  refine jj_bipush hJ dX4_addLevel_4 bp_10 ?_
  refine jj_icmp_ge hJ 29 dX4_addLevel_6 rfl (fun c1 => ?_) (fun c1 => ?_)
  · replace hF := ip c1 hF
    cases Option.some.inj hF
    exact jj_vret hJ dX4_addLevel_29
  · replace hF := iq c1 hF
    refine jj_aload_n hJ dX4_addLevel_9 0 rfl rfl ?_
    refine jj_get hJ lay_X4 dX4_addLevel_10 0 0 rfl rfl (Nat.le_of_ble_eq_true rfl) kw_1 rfl ?_
    refine jj_aload_n hJ dX4_addLevel_13 0 rfl rfl ?_
    refine jj_get hJ lay_X4 dX4_addLevel_14 0 4 rfl rfl (Nat.le_of_ble_eq_true rfl) kw_0 rfl ?_
    refine jj_iload_n hJ dX4_addLevel_17 1 rfl rfl ?_
    obtain ⟨g2, h3, hF⟩ := ob hF
    refine jj_iast hJ dX4_addLevel_18 1 0 rfl rfl h3 (wn := (W_X4_addLevel cI cS cII SA g2 S_f S_t S_w S_l S_b)) rfl ?_
    refine jj_aload_n hJ dX4_addLevel_19 0 rfl rfl ?_
    refine jj_dup hJ dX4_addLevel_20 rfl ?_
    refine jj_get hJ lay_X4 dX4_addLevel_21 0 4 rfl rfl (Nat.le_of_ble_eq_true rfl) kw_0 rfl ?_
    refine jj_iconst hJ dX4_addLevel_24 ic_1 ?_
    refine jj_iadd hJ dX4_addLevel_25 ?_
    refine jj_puti hJ lay_X4 tyX4 tyX4_ok nmX4 dX4_addLevel_26 0 4 rfl rfl (Nat.le_of_ble_eq_true rfl) kw_0 rfl rfl (Nat.le_of_ble_eq_true rfl) (wn := (W_X4_addLevel cI cS cII SA g2 S_f S_t S_w (S_l + 1) S_b)) rfl ?_
    cases Option.some.inj hF
    exact jj_vret hJ dX4_addLevel_29
section
def W_X4_isFloating (cI cS cII : ClassId) (SA : Nat → Nat) (S_k : Nat → Int32) (S_f : Nat → Int32) (S_t : Nat → Int32) (S_w : Nat → Int32) (S_l : Int32) (S_b : Int32) : va_W := [((SA 0), .inr (4, [.ref (SA 1), .ref (SA 2), .ref (SA 3), .ref (SA 4), .int S_l, .int S_b])), ((SA 1), .inl (cI, 10, .inl S_k)), ((SA 2), .inl (cI, 16, .inl S_f)), ((SA 3), .inl (cI, 16, .inl S_t)), ((SA 4), .inl (cI, 16, .inl S_w))]
abbrev Rm_X4_isFloating : Room := { frames := 0, cells := 0, slots := 0, locals := 0 }
variable {l : Launch} {D : va_G} {cI cS cII : ClassId} {SA : Nat → Nat} {A : Nat → Prop} {J : jT}
variable {z_r : Int32}
def p_X4_isFloating (S_k : Nat → Int32) (a1 : Int32) : Option (Int32) := (rd S_k 10 a1).bind fun x1 => if x1 = 1 then (some 1) else ((rd S_k 10 a1).bind fun x4 => if x4 = 3 then (some 1) else (some 0))
end
set_option maxRecDepth 100000 in
theorem c_X4_isFloating (l : Launch) (D : va_G) (cI cS cII : ClassId) (SA : Nat → Nat) (S_k : Nat → Int32) (S_f : Nat → Int32) (S_t : Nat → Int32) (S_w : Nat → Int32) (S_l : Int32) (S_b : Int32) (a1 : Int32) {z_r : Int32} (hF : p_X4_isFloating S_k a1 = some z_r) : MJ l yX4_isFloating cX4_isFloating 2 (some .boolean) Rm_X4_isFloating D (tysU cI cS cII) [.ref (SA 0), .int a1] (W_X4_isFloating cI cS cII SA S_k S_f S_t S_w S_l S_b) (some z_r) (W_X4_isFloating cI cS cII SA S_k S_f S_t S_w S_l S_b) := by
  refine mj_of (own := RX4) (by decide) rfl (Nat.le_of_ble_eq_true rfl) (fun J hJ => ?_)
  show J (W_X4_isFloating cI cS cII SA S_k S_f S_t S_w S_l S_b) 0 [(0, .ref (SA 0)), (1, .int a1)] []
  unfold p_X4_isFloating at hF
  refine jj_aload_n hJ dX4_isFloating_0 0 rfl rfl ?_
  refine jj_get hJ lay_X4 dX4_isFloating_1 0 0 rfl rfl (Nat.le_of_ble_eq_true rfl) kw_1 rfl ?_
  refine jj_iload_n hJ dX4_isFloating_4 1 rfl rfl ?_
  obtain ⟨x1, h2, hF⟩ := ob hF
  refine jj_iald hJ dX4_isFloating_5 1 0 rfl rfl h2 ?_
  refine jj_iconst hJ dX4_isFloating_6 ic_1 ?_
  refine jj_icmp_eq hJ 20 dX4_isFloating_7 rfl (fun c3 => ?_) (fun c3 => ?_)
  · replace hF := ip c3 hF
    refine jj_iconst hJ dX4_isFloating_20 ic_1 ?_
    refine jj_goto hJ 25 dX4_isFloating_21 rfl ?_
    cases Option.some.inj hF
    exact jj_zret hJ (Or.inr rfl) dX4_isFloating_25
  · replace hF := iq c3 hF
    refine jj_aload_n hJ dX4_isFloating_10 0 rfl rfl ?_
    refine jj_get hJ lay_X4 dX4_isFloating_11 0 0 rfl rfl (Nat.le_of_ble_eq_true rfl) kw_1 rfl ?_
    refine jj_iload_n hJ dX4_isFloating_14 1 rfl rfl ?_
    obtain ⟨x4, h5, hF⟩ := ob hF
    refine jj_iald hJ dX4_isFloating_15 1 0 rfl rfl h5 ?_
    refine jj_iconst hJ dX4_isFloating_16 ic_3 ?_
    refine jj_icmp_ne hJ 24 dX4_isFloating_17 rfl (fun c6 => ?_) (fun c6 => ?_)
    · replace hF := iq c6 hF
      refine jj_iconst hJ dX4_isFloating_24 ic_0 ?_
      cases Option.some.inj hF
      exact jj_zret hJ (Or.inl rfl) dX4_isFloating_25
    · replace hF := ip c6 hF
      refine jj_iconst hJ dX4_isFloating_20 ic_1 ?_
      refine jj_goto hJ 25 dX4_isFloating_21 rfl ?_
      cases Option.some.inj hF
      exact jj_zret hJ (Or.inr rfl) dX4_isFloating_25
section
def W_X4_weightTowards (cI cS cII : ClassId) (SA : Nat → Nat) (S_k : Nat → Int32) (S_f : Nat → Int32) (S_t : Nat → Int32) (S_w : Nat → Int32) (S_l : Int32) (S_b : Int32) : va_W := [((SA 0), .inr (4, [.ref (SA 1), .ref (SA 2), .ref (SA 3), .ref (SA 4), .int S_l, .int S_b])), ((SA 1), .inl (cI, 10, .inl S_k)), ((SA 2), .inl (cI, 16, .inl S_f)), ((SA 3), .inl (cI, 16, .inl S_t)), ((SA 4), .inl (cI, 16, .inl S_w))]
abbrev Rm_X4_weightTowards : Room := { frames := 0, cells := 0, slots := 0, locals := 0 }
variable {l : Launch} {D : va_G} {cI cS cII : ClassId} {SA : Nat → Nat} {A : Nat → Prop} {J : jT}
variable {z_r : Int32}
def p_X4_weightTowards (S_k : Nat → Int32) (a1 : Int32) (a2 : Int32) : Option (Int32) := (rd S_k 10 a1).bind fun x1 => if x1 = 2 then (some (a2 + 1)) else if x1 = 3 then (some (a2 - 1)) else (some a2)
end
set_option maxRecDepth 100000 in
theorem c_X4_weightTowards (l : Launch) (D : va_G) (cI cS cII : ClassId) (SA : Nat → Nat) (S_k : Nat → Int32) (S_f : Nat → Int32) (S_t : Nat → Int32) (S_w : Nat → Int32) (S_l : Int32) (S_b : Int32) (a1 : Int32) (a2 : Int32) {z_r : Int32} (hF : p_X4_weightTowards S_k a1 a2 = some z_r) : MJ l yX4_weightTowards cX4_weightTowards 3 (some .int) Rm_X4_weightTowards D (tysU cI cS cII) [.ref (SA 0), .int a1, .int a2] (W_X4_weightTowards cI cS cII SA S_k S_f S_t S_w S_l S_b) (some z_r) (W_X4_weightTowards cI cS cII SA S_k S_f S_t S_w S_l S_b) := by
  refine mj_of (own := RX4) (by decide) rfl (Nat.le_of_ble_eq_true rfl) (fun J hJ => ?_)
  show J (W_X4_weightTowards cI cS cII SA S_k S_f S_t S_w S_l S_b) 0 [(0, .ref (SA 0)), (1, .int a1), (2, .int a2)] []
  unfold p_X4_weightTowards at hF
  refine jj_aload_n hJ dX4_weightTowards_0 0 rfl rfl ?_
  refine jj_get hJ lay_X4 dX4_weightTowards_1 0 0 rfl rfl (Nat.le_of_ble_eq_true rfl) kw_1 rfl ?_
  refine jj_iload_n hJ dX4_weightTowards_4 1 rfl rfl ?_
  obtain ⟨x1, h2, hF⟩ := ob hF
  refine jj_iald hJ dX4_weightTowards_5 1 0 rfl rfl h2 ?_
  by_cases c3 : x1 = 2
  · replace hF := ip c3 hF
    refine jj_lsw hJ 32 dX4_weightTowards_6 (by decide) (by rw [c3] <;> rfl) rfl ?_
    refine jj_iload_n hJ dX4_weightTowards_32 2 rfl rfl ?_
    refine jj_iconst hJ dX4_weightTowards_33 ic_1 ?_
    refine jj_iadd hJ dX4_weightTowards_34 ?_
    cases Option.some.inj hF
    exact jj_iret hJ dX4_weightTowards_35
  replace hF := iq c3 hF
  by_cases c4 : x1 = 3
  · replace hF := ip c4 hF
    refine jj_lsw hJ 36 dX4_weightTowards_6 (by decide) (by rw [c4] <;> rfl) rfl ?_
    refine jj_iload_n hJ dX4_weightTowards_36 2 rfl rfl ?_
    refine jj_iconst hJ dX4_weightTowards_37 ic_1 ?_
    refine jj_isub hJ dX4_weightTowards_38 ?_
    cases Option.some.inj hF
    exact jj_iret hJ dX4_weightTowards_39
  replace hF := iq c4 hF
  refine jj_lsw hJ 40 dX4_weightTowards_6 (by decide) (off := 34) (by show Op.lookupswitch.offset [(2, 26), (3, 30)] _ _ = _; rw [lv_osw c3 (show (2 : Int32).toInt = 2 from rfl), lv_osw c4 (show (3 : Int32).toInt = 3 from rfl)]; rfl) rfl ?_
  refine jj_iload_n hJ dX4_weightTowards_40 2 rfl rfl ?_
  cases Option.some.inj hF
  exact jj_iret hJ dX4_weightTowards_41
section
def W_X4_take (cI cS cII : ClassId) (SA : Nat → Nat) (S_k : Nat → Int32) (S_f : Nat → Int32) (S_t : Nat → Int32) (S_w : Nat → Int32) (S_l : Int32) (S_b : Int32) : va_W := [((SA 0), .inr (4, [.ref (SA 1), .ref (SA 2), .ref (SA 3), .ref (SA 4), .int S_l, .int S_b])), ((SA 1), .inl (cI, 10, .inl S_k)), ((SA 2), .inl (cI, 16, .inl S_f)), ((SA 3), .inl (cI, 16, .inl S_t)), ((SA 4), .inl (cI, 16, .inl S_w))]
abbrev Rm_X4_take : Room := { frames := 0, cells := 0, slots := 0, locals := 0 }
variable {l : Launch} {D : va_G} {cI cS cII : ClassId} {SA : Nat → Nat} {A : Nat → Prop} {J : jT}
variable {z_S_f : Nat → Int32} {z_S_t : Nat → Int32} {z_S_w : Nat → Int32} {z_S_b : Int32}
def p_X4_take (S_f : Nat → Int32) (S_t : Nat → Int32) (S_w : Nat → Int32) (S_b : Int32) (a1 : Int32) (a2 : Int32) (a3 : Int32) : Option ((Nat → Int32) × (Nat → Int32) × (Nat → Int32) × Int32) := if 16 ≤ S_b then (some (S_f, S_t, S_w, S_b)) else ((wr S_f 16 S_b a1).bind fun g2 => (wr S_t 16 S_b a3).bind fun g4 => (wr S_w 16 S_b a2).bind fun g6 => some (g2, g4, g6, S_b + 1))
end
set_option maxRecDepth 100000 in
theorem c_X4_take (l : Launch) (D : va_G) (cI cS cII : ClassId) (SA : Nat → Nat) (S_k : Nat → Int32) (S_f : Nat → Int32) (S_t : Nat → Int32) (S_w : Nat → Int32) (S_l : Int32) (S_b : Int32) (a1 : Int32) (a2 : Int32) (a3 : Int32) {z_S_f : Nat → Int32} {z_S_t : Nat → Int32} {z_S_w : Nat → Int32} {z_S_b : Int32} (hF : p_X4_take S_f S_t S_w S_b a1 a2 a3 = some (z_S_f, z_S_t, z_S_w, z_S_b)) : MJ l yX4_take cX4_take 4 none Rm_X4_take D (tysU cI cS cII) [.ref (SA 0), .int a1, .int a2, .int a3] (W_X4_take cI cS cII SA S_k S_f S_t S_w S_l S_b) none (W_X4_take cI cS cII SA S_k z_S_f z_S_t z_S_w S_l z_S_b) := by
  refine mj_of (own := RX4) (by decide) rfl (Nat.le_of_ble_eq_true rfl) (fun J hJ => ?_)
  show J (W_X4_take cI cS cII SA S_k S_f S_t S_w S_l S_b) 0 [(0, .ref (SA 0)), (1, .int a1), (2, .int a2), (3, .int a3)] []
  unfold p_X4_take at hF
  refine jj_aload_n hJ dX4_take_0 0 rfl rfl ?_
  refine jj_get hJ lay_X4 dX4_take_1 0 5 rfl rfl (Nat.le_of_ble_eq_true rfl) kw_2 rfl ?_
  refine jj_bipush hJ dX4_take_4 bp_16 ?_
  refine jj_icmp_ge hJ 49 dX4_take_6 rfl (fun c1 => ?_) (fun c1 => ?_)
  · replace hF := ip c1 hF
    cases Option.some.inj hF
    exact jj_vret hJ dX4_take_49
  · replace hF := iq c1 hF
    refine jj_aload_n hJ dX4_take_9 0 rfl rfl ?_
    refine jj_get hJ lay_X4 dX4_take_10 0 1 rfl rfl (Nat.le_of_ble_eq_true rfl) kw_3 rfl ?_
    refine jj_aload_n hJ dX4_take_13 0 rfl rfl ?_
    refine jj_get hJ lay_X4 dX4_take_14 0 5 rfl rfl (Nat.le_of_ble_eq_true rfl) kw_2 rfl ?_
    refine jj_iload_n hJ dX4_take_17 1 rfl rfl ?_
    obtain ⟨g2, h3, hF⟩ := ob hF
    refine jj_iast hJ dX4_take_18 2 0 rfl rfl h3 (wn := (W_X4_take cI cS cII SA S_k g2 S_t S_w S_l S_b)) rfl ?_
    refine jj_aload_n hJ dX4_take_19 0 rfl rfl ?_
    refine jj_get hJ lay_X4 dX4_take_20 0 2 rfl rfl (Nat.le_of_ble_eq_true rfl) kw_4 rfl ?_
    refine jj_aload_n hJ dX4_take_23 0 rfl rfl ?_
    refine jj_get hJ lay_X4 dX4_take_24 0 5 rfl rfl (Nat.le_of_ble_eq_true rfl) kw_2 rfl ?_
    refine jj_iload_n hJ dX4_take_27 3 rfl rfl ?_
    obtain ⟨g4, h5, hF⟩ := ob hF
    refine jj_iast hJ dX4_take_28 3 0 rfl rfl h5 (wn := (W_X4_take cI cS cII SA S_k g2 g4 S_w S_l S_b)) rfl ?_
    refine jj_aload_n hJ dX4_take_29 0 rfl rfl ?_
    refine jj_get hJ lay_X4 dX4_take_30 0 3 rfl rfl (Nat.le_of_ble_eq_true rfl) kw_5 rfl ?_
    refine jj_aload_n hJ dX4_take_33 0 rfl rfl ?_
    refine jj_get hJ lay_X4 dX4_take_34 0 5 rfl rfl (Nat.le_of_ble_eq_true rfl) kw_2 rfl ?_
    refine jj_iload_n hJ dX4_take_37 2 rfl rfl ?_
    obtain ⟨g6, h7, hF⟩ := ob hF
    refine jj_iast hJ dX4_take_38 4 0 rfl rfl h7 (wn := (W_X4_take cI cS cII SA S_k g2 g4 g6 S_l S_b)) rfl ?_
    refine jj_aload_n hJ dX4_take_39 0 rfl rfl ?_
    refine jj_dup hJ dX4_take_40 rfl ?_
    refine jj_get hJ lay_X4 dX4_take_41 0 5 rfl rfl (Nat.le_of_ble_eq_true rfl) kw_2 rfl ?_
    refine jj_iconst hJ dX4_take_44 ic_1 ?_
    refine jj_iadd hJ dX4_take_45 ?_
    refine jj_puti hJ lay_X4 tyX4 tyX4_ok nmX4 dX4_take_46 0 5 rfl rfl (Nat.le_of_ble_eq_true rfl) kw_2 rfl rfl (Nat.le_of_ble_eq_true rfl) (wn := (W_X4_take cI cS cII SA S_k g2 g4 g6 S_l (S_b + 1))) rfl ?_
    cases Option.some.inj hF
    exact jj_vret hJ dX4_take_49
section
def W_X4_takeBack (cI cS cII : ClassId) (SA : Nat → Nat) (S_k : Nat → Int32) (S_f : Nat → Int32) (S_t : Nat → Int32) (S_w : Nat → Int32) (S_l : Int32) (S_b : Int32) : va_W := [((SA 0), .inr (4, [.ref (SA 1), .ref (SA 2), .ref (SA 3), .ref (SA 4), .int S_l, .int S_b])), ((SA 1), .inl (cI, 10, .inl S_k)), ((SA 2), .inl (cI, 16, .inl S_f)), ((SA 3), .inl (cI, 16, .inl S_t)), ((SA 4), .inl (cI, 16, .inl S_w))]
abbrev Rm_X4_takeBack : Room := { frames := 0, cells := 0, slots := 0, locals := 0 }
variable {l : Launch} {D : va_G} {cI cS cII : ClassId} {SA : Nat → Nat} {A : Nat → Prop} {J : jT}
variable {z_S_f : Nat → Int32} {z_S_t : Nat → Int32} {z_S_w : Nat → Int32} {z_S_b : Int32}
def q_X4_takeBack_60 (a1 : Int32)  (S_f : Nat → Int32) (S_t : Nat → Int32) (S_w : Nat → Int32) (S_b : Int32) : Option ((Nat → Int32) × (Nat → Int32) × (Nat → Int32) × Int32) := some (S_f, S_t, S_w, S_b - 1)
set_option maxRecDepth 100000 in
theorem w_X4_takeBack_60 {S_k : Nat → Int32} {S_l : Int32} {a1 : Int32}  (hJ : jJ l cX4_takeBack 3 D (tysU cI cS cII) RX4 Rm_X4_takeBack none A none (W_X4_takeBack cI cS cII SA S_k z_S_f z_S_t z_S_w S_l z_S_b) J)  : ∀ (S_f : Nat → Int32) (S_t : Nat → Int32) (S_w : Nat → Int32) (S_b : Int32), q_X4_takeBack_60 a1 S_f S_t S_w S_b = some (z_S_f, z_S_t, z_S_w, z_S_b) → J (W_X4_takeBack cI cS cII SA S_k S_f S_t S_w S_l S_b) 60 [(0, .ref (SA 0))] [] := by
  intro S_f S_t S_w S_b hF
  unfold q_X4_takeBack_60 at hF
  refine jj_aload_n hJ dX4_takeBack_60 0 rfl rfl ?_
  refine jj_dup hJ dX4_takeBack_61 rfl ?_
  refine jj_get hJ lay_X4 dX4_takeBack_62 0 5 rfl rfl (Nat.le_of_ble_eq_true rfl) kw_2 rfl ?_
  refine jj_iconst hJ dX4_takeBack_65 ic_1 ?_
  refine jj_isub hJ dX4_takeBack_66 ?_
  refine jj_puti hJ lay_X4 tyX4 tyX4_ok nmX4 dX4_takeBack_67 0 5 rfl rfl (Nat.le_of_ble_eq_true rfl) kw_2 rfl rfl (Nat.le_of_ble_eq_true rfl) (wn := (W_X4_takeBack cI cS cII SA S_k S_f S_t S_w S_l (S_b - 1))) rfl ?_
  cases Option.some.inj hF
  exact jj_vret hJ dX4_takeBack_70
def q_X4_takeBack_4 (a1 : Int32)  : Nat → Int32 → (Nat → Int32) → (Nat → Int32) → (Nat → Int32) → Int32 → Option ((Nat → Int32) × (Nat → Int32) × (Nat → Int32) × Int32)
  | 0, _, _, _, _, _ => none
  | n + 1, v2, S_f, S_t, S_w, S_b => if S_b ≤ v2 then (q_X4_takeBack_60 a1 S_f S_t S_w S_b) else ((rd S_f 16 v2).bind fun x2 => (wr S_f 16 (v2 - 1) x2).bind fun g4 => (rd S_t 16 v2).bind fun x6 => (wr S_t 16 (v2 - 1) x6).bind fun g8 => (rd S_w 16 v2).bind fun x10 => (wr S_w 16 (v2 - 1) x10).bind fun g12 => q_X4_takeBack_4 a1 n (v2 + 1) g4 g8 g12 S_b)
set_option maxRecDepth 100000 in
theorem w_X4_takeBack_4 {S_k : Nat → Int32} {S_l : Int32} {a1 : Int32}  (hJ : jJ l cX4_takeBack 3 D (tysU cI cS cII) RX4 Rm_X4_takeBack none A none (W_X4_takeBack cI cS cII SA S_k z_S_f z_S_t z_S_w S_l z_S_b) J)  : ∀ (n : Nat) (v2 : Int32) (S_f : Nat → Int32) (S_t : Nat → Int32) (S_w : Nat → Int32) (S_b : Int32), q_X4_takeBack_4 a1 n v2 S_f S_t S_w S_b = some (z_S_f, z_S_t, z_S_w, z_S_b) → J (W_X4_takeBack cI cS cII SA S_k S_f S_t S_w S_l S_b) 4 [(2, .int v2), (0, .ref (SA 0))] [] := by
  intro n
  induction n with
  | zero =>
    intro v2 S_f S_t S_w S_b hF
    exact no_some (show (none : Option ((Nat → Int32) × (Nat → Int32) × (Nat → Int32) × Int32)) = some (z_S_f, z_S_t, z_S_w, z_S_b) from hF)
  | succ n ih =>
    intro v2 S_f S_t S_w S_b hF
    rw [q_X4_takeBack_4.eq_2] at hF
    refine jj_iload_n hJ dX4_takeBack_4 0 rfl rfl ?_
    refine jj_aload_n hJ dX4_takeBack_5 1 rfl rfl ?_
    refine jj_get hJ lay_X4 dX4_takeBack_6 0 5 rfl rfl (Nat.le_of_ble_eq_true rfl) kw_2 rfl ?_
    refine jj_icmp_ge hJ 60 dX4_takeBack_9 rfl (fun c1 => ?_) (fun c1 => ?_)
    · replace hF := ip c1 hF
      refine jj_lv hJ [1] (lv' := [(0, .ref (SA 0))]) rfl ?_
      exact w_X4_takeBack_60 hJ  S_f S_t S_w S_b hF
    · replace hF := iq c1 hF
      refine jj_aload_n hJ dX4_takeBack_12 1 rfl rfl ?_
      refine jj_get hJ lay_X4 dX4_takeBack_13 0 1 rfl rfl (Nat.le_of_ble_eq_true rfl) kw_3 rfl ?_
      refine jj_iload_n hJ dX4_takeBack_16 0 rfl rfl ?_
      refine jj_iconst hJ dX4_takeBack_17 ic_1 ?_
      refine jj_isub hJ dX4_takeBack_18 ?_
      refine jj_aload_n hJ dX4_takeBack_19 1 rfl rfl ?_
      refine jj_get hJ lay_X4 dX4_takeBack_20 0 1 rfl rfl (Nat.le_of_ble_eq_true rfl) kw_3 rfl ?_
      refine jj_iload_n hJ dX4_takeBack_23 0 rfl rfl ?_
      obtain ⟨x2, h3, hF⟩ := ob hF
      refine jj_iald hJ dX4_takeBack_24 2 0 rfl rfl h3 ?_
      obtain ⟨g4, h5, hF⟩ := ob hF
      refine jj_iast hJ dX4_takeBack_25 2 0 rfl rfl h5 (wn := (W_X4_takeBack cI cS cII SA S_k g4 S_t S_w S_l S_b)) rfl ?_
      refine jj_aload_n hJ dX4_takeBack_26 1 rfl rfl ?_
      refine jj_get hJ lay_X4 dX4_takeBack_27 0 2 rfl rfl (Nat.le_of_ble_eq_true rfl) kw_4 rfl ?_
      refine jj_iload_n hJ dX4_takeBack_30 0 rfl rfl ?_
      refine jj_iconst hJ dX4_takeBack_31 ic_1 ?_
      refine jj_isub hJ dX4_takeBack_32 ?_
      refine jj_aload_n hJ dX4_takeBack_33 1 rfl rfl ?_
      refine jj_get hJ lay_X4 dX4_takeBack_34 0 2 rfl rfl (Nat.le_of_ble_eq_true rfl) kw_4 rfl ?_
      refine jj_iload_n hJ dX4_takeBack_37 0 rfl rfl ?_
      obtain ⟨x6, h7, hF⟩ := ob hF
      refine jj_iald hJ dX4_takeBack_38 3 0 rfl rfl h7 ?_
      obtain ⟨g8, h9, hF⟩ := ob hF
      refine jj_iast hJ dX4_takeBack_39 3 0 rfl rfl h9 (wn := (W_X4_takeBack cI cS cII SA S_k g4 g8 S_w S_l S_b)) rfl ?_
      refine jj_aload_n hJ dX4_takeBack_40 1 rfl rfl ?_
      refine jj_get hJ lay_X4 dX4_takeBack_41 0 3 rfl rfl (Nat.le_of_ble_eq_true rfl) kw_5 rfl ?_
      refine jj_iload_n hJ dX4_takeBack_44 0 rfl rfl ?_
      refine jj_iconst hJ dX4_takeBack_45 ic_1 ?_
      refine jj_isub hJ dX4_takeBack_46 ?_
      refine jj_aload_n hJ dX4_takeBack_47 1 rfl rfl ?_
      refine jj_get hJ lay_X4 dX4_takeBack_48 0 3 rfl rfl (Nat.le_of_ble_eq_true rfl) kw_5 rfl ?_
      refine jj_iload_n hJ dX4_takeBack_51 0 rfl rfl ?_
      obtain ⟨x10, h11, hF⟩ := ob hF
      refine jj_iald hJ dX4_takeBack_52 4 0 rfl rfl h11 ?_
      obtain ⟨g12, h13, hF⟩ := ob hF
      refine jj_iast hJ dX4_takeBack_53 4 0 rfl rfl h13 (wn := (W_X4_takeBack cI cS cII SA S_k g4 g8 g12 S_l S_b)) rfl ?_
      refine jj_iinc hJ dX4_takeBack_54 0 rfl (v := v2 + 1) (by rw [ic_1]) (Nat.le_of_ble_eq_true rfl) (lv' := [(2, .int (v2 + 1)), (0, .ref (SA 0))]) rfl ?_
      refine jj_goto hJ 4 dX4_takeBack_57 rfl ?_
      exact ih (v2 + 1) g4 g8 g12 S_b hF
def p_X4_takeBack (S_f : Nat → Int32) (S_t : Nat → Int32) (S_w : Nat → Int32) (S_b : Int32) (a1 : Int32) : Option ((Nat → Int32) × (Nat → Int32) × (Nat → Int32) × Int32) := q_X4_takeBack_4 a1 FU (a1 + 1) S_f S_t S_w S_b
end
set_option maxRecDepth 100000 in
theorem c_X4_takeBack (l : Launch) (D : va_G) (cI cS cII : ClassId) (SA : Nat → Nat) (S_k : Nat → Int32) (S_f : Nat → Int32) (S_t : Nat → Int32) (S_w : Nat → Int32) (S_l : Int32) (S_b : Int32) (a1 : Int32) {z_S_f : Nat → Int32} {z_S_t : Nat → Int32} {z_S_w : Nat → Int32} {z_S_b : Int32} (hF : p_X4_takeBack S_f S_t S_w S_b a1 = some (z_S_f, z_S_t, z_S_w, z_S_b)) : MJ l yX4_takeBack cX4_takeBack 3 none Rm_X4_takeBack D (tysU cI cS cII) [.ref (SA 0), .int a1] (W_X4_takeBack cI cS cII SA S_k S_f S_t S_w S_l S_b) none (W_X4_takeBack cI cS cII SA S_k z_S_f z_S_t z_S_w S_l z_S_b) := by
  refine mj_of (own := RX4) (by decide) rfl (Nat.le_of_ble_eq_true rfl) (fun J hJ => ?_)
  show J (W_X4_takeBack cI cS cII SA S_k S_f S_t S_w S_l S_b) 0 [(0, .ref (SA 0)), (1, .int a1)] []
  unfold p_X4_takeBack at hF
  refine jj_iload_n hJ dX4_takeBack_0 1 rfl rfl ?_
  refine jj_iconst hJ dX4_takeBack_1 ic_1 ?_
  refine jj_iadd hJ dX4_takeBack_2 ?_
  refine jj_istore_n hJ dX4_takeBack_3 rfl (Nat.le_of_ble_eq_true rfl) (lv' := [(2, .int (a1 + 1)), (0, .ref (SA 0)), (1, .int a1)]) rfl ?_
  refine jj_lv hJ [0, 1] (lv' := [(2, .int (a1 + 1)), (0, .ref (SA 0))]) rfl ?_
  exact w_X4_takeBack_4 hJ  FU (a1 + 1) S_f S_t S_w S_b hF
section
def W_X4_lengthen (cI cS cII : ClassId) (SA : Nat → Nat) (YA : Nat) (S_k : Nat → Int32) (S_f : Nat → Int32) (S_t : Nat → Int32) (S_w : Nat → Int32) (S_l : Int32) (S_b : Int32) (Y_x : Nat → Int32) : va_W := [((SA 0), .inr (4, [.ref (SA 1), .ref (SA 2), .ref (SA 3), .ref (SA 4), .int S_l, .int S_b])), ((SA 1), .inl (cI, 10, .inl S_k)), ((SA 2), .inl (cI, 16, .inl S_f)), ((SA 3), .inl (cI, 16, .inl S_t)), ((SA 4), .inl (cI, 16, .inl S_w)), (YA, .inl (cI, 10, .inl Y_x))]
abbrev Rm_X4_lengthen : Room := { frames := 0, cells := 0, slots := 0, locals := 0 }
variable {l : Launch} {D : va_G} {cI cS cII : ClassId} {SA : Nat → Nat} {YA : Nat} {A : Nat → Prop} {J : jT}
variable {z_r : Int32} {z_Y_x : Nat → Int32}
def p_X4_lengthen (S_f : Nat → Int32) (S_t : Nat → Int32) (S_w : Nat → Int32) (Y_x : Nat → Int32) (a1 : Int32) : Option (Int32 × (Nat → Int32)) := (rd S_f 16 a1).bind fun x1 => (rd Y_x 10 x1).bind fun x3 => if x3 = ((-1000000)) then (some (0, Y_x)) else ((rd S_w 16 a1).bind fun x6 => (rd S_t 16 a1).bind fun x8 => (rd Y_x 10 x8).bind fun x10 => if x10 < (x3 + x6) then ((rd S_t 16 a1).bind fun x13 => (rd S_w 16 a1).bind fun x15 => (wr Y_x 10 x13 (x3 + x15)).bind fun g17 => some (1, g17)) else (some (0, Y_x)))
end
set_option maxRecDepth 100000 in
theorem c_X4_lengthen (l : Launch) (D : va_G) (cI cS cII : ClassId) (SA : Nat → Nat) (YA : Nat) (S_k : Nat → Int32) (S_f : Nat → Int32) (S_t : Nat → Int32) (S_w : Nat → Int32) (S_l : Int32) (S_b : Int32) (Y_x : Nat → Int32) (a1 : Int32) {z_r : Int32} {z_Y_x : Nat → Int32} (hF : p_X4_lengthen S_f S_t S_w Y_x a1 = some (z_r, z_Y_x)) : MJ l yX4_lengthen cX4_lengthen 4 (some .boolean) Rm_X4_lengthen D (tysU cI cS cII) [.ref (SA 0), .int a1, .ref YA] (W_X4_lengthen cI cS cII SA YA S_k S_f S_t S_w S_l S_b Y_x) (some z_r) (W_X4_lengthen cI cS cII SA YA S_k S_f S_t S_w S_l S_b z_Y_x) := by
  refine mj_of (own := RX4) (by decide) rfl (Nat.le_of_ble_eq_true rfl) (fun J hJ => ?_)
  show J (W_X4_lengthen cI cS cII SA YA S_k S_f S_t S_w S_l S_b Y_x) 0 [(0, .ref (SA 0)), (1, .int a1), (2, .ref YA)] []
  unfold p_X4_lengthen at hF
  refine jj_aload_n hJ dX4_lengthen_0 2 rfl rfl ?_
  refine jj_aload_n hJ dX4_lengthen_1 0 rfl rfl ?_
  refine jj_get hJ lay_X4 dX4_lengthen_2 0 1 rfl rfl (Nat.le_of_ble_eq_true rfl) kw_3 rfl ?_
  refine jj_iload_n hJ dX4_lengthen_5 1 rfl rfl ?_
  obtain ⟨x1, h2, hF⟩ := ob hF
  refine jj_iald hJ dX4_lengthen_6 2 0 rfl rfl h2 ?_
  obtain ⟨x3, h4, hF⟩ := ob hF
  refine jj_iald hJ dX4_lengthen_7 5 0 rfl rfl h4 ?_
  refine jj_istore_n hJ dX4_lengthen_8 rfl (Nat.le_of_ble_eq_true rfl) (lv' := [(3, .int x3), (0, .ref (SA 0)), (1, .int a1), (2, .ref YA)]) rfl ?_
  refine jj_iload_n hJ dX4_lengthen_9 0 rfl rfl ?_
  refine jj_ldc hJ dX4_lengthen_10 kw_6 ?_
  refine jj_icmp_eq hJ 34 dX4_lengthen_12 rfl (fun c5 => ?_) (fun c5 => ?_)
  · replace hF := ip c5 hF
    refine jj_iconst hJ dX4_lengthen_34 ic_0 ?_
    cases Option.some.inj hF
    exact jj_zret hJ (Or.inl rfl) dX4_lengthen_35
  · replace hF := iq c5 hF
    refine jj_iload_n hJ dX4_lengthen_15 0 rfl rfl ?_
    refine jj_aload_n hJ dX4_lengthen_16 1 rfl rfl ?_
    refine jj_get hJ lay_X4 dX4_lengthen_17 0 3 rfl rfl (Nat.le_of_ble_eq_true rfl) kw_5 rfl ?_
    refine jj_iload_n hJ dX4_lengthen_20 2 rfl rfl ?_
    obtain ⟨x6, h7, hF⟩ := ob hF
    refine jj_iald hJ dX4_lengthen_21 4 0 rfl rfl h7 ?_
    refine jj_iadd hJ dX4_lengthen_22 ?_
    refine jj_aload_n hJ dX4_lengthen_23 3 rfl rfl ?_
    refine jj_aload_n hJ dX4_lengthen_24 1 rfl rfl ?_
    refine jj_get hJ lay_X4 dX4_lengthen_25 0 2 rfl rfl (Nat.le_of_ble_eq_true rfl) kw_4 rfl ?_
    refine jj_iload_n hJ dX4_lengthen_28 2 rfl rfl ?_
    obtain ⟨x8, h9, hF⟩ := ob hF
    refine jj_iald hJ dX4_lengthen_29 3 0 rfl rfl h9 ?_
    obtain ⟨x10, h11, hF⟩ := ob hF
    refine jj_iald hJ dX4_lengthen_30 5 0 rfl rfl h11 ?_
    refine jj_icmp_gt hJ 36 dX4_lengthen_31 rfl (fun c12 => ?_) (fun c12 => ?_)
    · replace hF := ip c12 hF
      refine jj_aload_n hJ dX4_lengthen_36 3 rfl rfl ?_
      refine jj_aload_n hJ dX4_lengthen_37 1 rfl rfl ?_
      refine jj_get hJ lay_X4 dX4_lengthen_38 0 2 rfl rfl (Nat.le_of_ble_eq_true rfl) kw_4 rfl ?_
      refine jj_iload_n hJ dX4_lengthen_41 2 rfl rfl ?_
      obtain ⟨x13, h14, hF⟩ := ob hF
      refine jj_iald hJ dX4_lengthen_42 3 0 rfl rfl h14 ?_
      refine jj_iload_n hJ dX4_lengthen_43 0 rfl rfl ?_
      refine jj_aload_n hJ dX4_lengthen_44 1 rfl rfl ?_
      refine jj_get hJ lay_X4 dX4_lengthen_45 0 3 rfl rfl (Nat.le_of_ble_eq_true rfl) kw_5 rfl ?_
      refine jj_iload_n hJ dX4_lengthen_48 2 rfl rfl ?_
      obtain ⟨x15, h16, hF⟩ := ob hF
      refine jj_iald hJ dX4_lengthen_49 4 0 rfl rfl h16 ?_
      refine jj_iadd hJ dX4_lengthen_50 ?_
      obtain ⟨g17, h18, hF⟩ := ob hF
      refine jj_iast hJ dX4_lengthen_51 5 0 rfl rfl h18 (wn := (W_X4_lengthen cI cS cII SA YA S_k S_f S_t S_w S_l S_b g17)) rfl ?_
      refine jj_iconst hJ dX4_lengthen_52 ic_1 ?_
      cases Option.some.inj hF
      exact jj_zret hJ (Or.inr rfl) dX4_lengthen_53
    · replace hF := iq c12 hF
      refine jj_iconst hJ dX4_lengthen_34 ic_0 ?_
      cases Option.some.inj hF
      exact jj_zret hJ (Or.inl rfl) dX4_lengthen_35
section
def W_X4_lengthsFrom (cI cS cII : ClassId) (SA : Nat → Nat) (YA : Nat) (S_k : Nat → Int32) (S_f : Nat → Int32) (S_t : Nat → Int32) (S_w : Nat → Int32) (S_l : Int32) (S_b : Int32) (Y_x : Nat → Int32) : va_W := [((SA 0), .inr (4, [.ref (SA 1), .ref (SA 2), .ref (SA 3), .ref (SA 4), .int S_l, .int S_b])), ((SA 1), .inl (cI, 10, .inl S_k)), ((SA 2), .inl (cI, 16, .inl S_f)), ((SA 3), .inl (cI, 16, .inl S_t)), ((SA 4), .inl (cI, 16, .inl S_w)), (YA, .inl (cI, 10, .inl Y_x))]
abbrev Rm_X4_lengthsFrom : Room := { frames := 1, cells := 0, slots := 0, locals := 23 }
variable {l : Launch} {D : va_G} {cI cS cII : ClassId} {SA : Nat → Nat} {YA : Nat} {A : Nat → Prop} {J : jT}
variable {z_Y_x : Nat → Int32}
def q_X4_lengthsFrom_73 (S_f : Nat → Int32) (S_t : Nat → Int32) (S_w : Nat → Int32) (S_l : Int32) (S_b : Int32) (a1 : Int32) (a2 : Int32) (k16 : Int32 → Int32 → (Nat → Int32) → Option (Nat → Int32)) (v4 : Int32) (v5 : Int32) (Y_x : Nat → Int32) : Option (Nat → Int32) := k16 (v5 + 1) v4 Y_x
set_option maxRecDepth 100000 in
theorem w_X4_lengthsFrom_73 {S_k : Nat → Int32} {S_f : Nat → Int32} {S_t : Nat → Int32} {S_w : Nat → Int32} {S_l : Int32} {S_b : Int32} {a1 : Int32} {a2 : Int32} {k16 : Int32 → Int32 → (Nat → Int32) → Option (Nat → Int32)} (hJ : jJ l cX4_lengthsFrom 7 D (tysU cI cS cII) RX4 Rm_X4_lengthsFrom none A none (W_X4_lengthsFrom cI cS cII SA YA S_k S_f S_t S_w S_l S_b z_Y_x) J) (hk16 : ∀ (v5 : Int32) (v4 : Int32) (Y_x : Nat → Int32), k16 v5 v4 Y_x = some z_Y_x → J (W_X4_lengthsFrom cI cS cII SA YA S_k S_f S_t S_w S_l S_b Y_x) 16 [(5, .int v5), (4, .int v4), (0, .ref (SA 0)), (2, .int a2), (3, .ref YA)] []) : ∀ (v4 : Int32) (v5 : Int32) (Y_x : Nat → Int32), q_X4_lengthsFrom_73 S_f S_t S_w S_l S_b a1 a2 k16 v4 v5 Y_x = some z_Y_x → J (W_X4_lengthsFrom cI cS cII SA YA S_k S_f S_t S_w S_l S_b Y_x) 73 [(4, .int v4), (5, .int v5), (0, .ref (SA 0)), (2, .int a2), (3, .ref YA)] [] := by
  intro v4 v5 Y_x hF
  unfold q_X4_lengthsFrom_73 at hF
  refine jj_iinc hJ dX4_lengthsFrom_73 1 rfl (v := v5 + 1) (by rw [ic_1]) (Nat.le_of_ble_eq_true rfl) (lv' := [(5, .int (v5 + 1)), (4, .int v4), (0, .ref (SA 0)), (2, .int a2), (3, .ref YA)]) rfl ?_
  refine jj_goto hJ 16 dX4_lengthsFrom_76 rfl ?_
  exact hk16 (v5 + 1) v4 Y_x hF
def q_X4_lengthsFrom_36 (S_f : Nat → Int32) (S_t : Nat → Int32) (S_w : Nat → Int32) (S_l : Int32) (S_b : Int32) (a1 : Int32) (a2 : Int32) (k16 : Int32 → Int32 → (Nat → Int32) → Option (Nat → Int32)) : Nat → Int32 → Int32 → Int32 → (Nat → Int32) → Option (Nat → Int32)
  | 0, _, _, _, _ => none
  | n + 1, v6, v4, v5, Y_x => if S_b ≤ v6 then (q_X4_lengthsFrom_73 S_f S_t S_w S_l S_b a1 a2 k16 v4 v5 Y_x) else (if ((a2 >>> (v6 &&& 31)) &&& 1) = 0 then ((p_X4_lengthen S_f S_t S_w Y_x v6).bind fun (r4, g5) => if r4 = 0 then (q_X4_lengthsFrom_36 S_f S_t S_w S_l S_b a1 a2 k16 n (v6 + 1) v4 v5 g5) else (q_X4_lengthsFrom_36 S_f S_t S_w S_l S_b a1 a2 k16 n (v6 + 1) 1 v5 g5)) else (q_X4_lengthsFrom_36 S_f S_t S_w S_l S_b a1 a2 k16 n (v6 + 1) v4 v5 Y_x))
set_option maxRecDepth 100000 in
theorem w_X4_lengthsFrom_36 {S_k : Nat → Int32} {S_f : Nat → Int32} {S_t : Nat → Int32} {S_w : Nat → Int32} {S_l : Int32} {S_b : Int32} {a1 : Int32} {a2 : Int32} {k16 : Int32 → Int32 → (Nat → Int32) → Option (Nat → Int32)} (hJ : jJ l cX4_lengthsFrom 7 D (tysU cI cS cII) RX4 Rm_X4_lengthsFrom none A none (W_X4_lengthsFrom cI cS cII SA YA S_k S_f S_t S_w S_l S_b z_Y_x) J) (hk16 : ∀ (v5 : Int32) (v4 : Int32) (Y_x : Nat → Int32), k16 v5 v4 Y_x = some z_Y_x → J (W_X4_lengthsFrom cI cS cII SA YA S_k S_f S_t S_w S_l S_b Y_x) 16 [(5, .int v5), (4, .int v4), (0, .ref (SA 0)), (2, .int a2), (3, .ref YA)] []) : ∀ (n : Nat) (v6 : Int32) (v4 : Int32) (v5 : Int32) (Y_x : Nat → Int32), q_X4_lengthsFrom_36 S_f S_t S_w S_l S_b a1 a2 k16 n v6 v4 v5 Y_x = some z_Y_x → J (W_X4_lengthsFrom cI cS cII SA YA S_k S_f S_t S_w S_l S_b Y_x) 36 [(6, .int v6), (4, .int v4), (5, .int v5), (0, .ref (SA 0)), (2, .int a2), (3, .ref YA)] [] := by
  intro n
  induction n with
  | zero =>
    intro v6 v4 v5 Y_x hF
    exact no_some (show (none : Option (Nat → Int32)) = some z_Y_x from hF)
  | succ n ih =>
    intro v6 v4 v5 Y_x hF
    rw [q_X4_lengthsFrom_36.eq_2] at hF
    refine jj_iload hJ dX4_lengthsFrom_36 0 rfl ?_
    refine jj_aload_n hJ dX4_lengthsFrom_38 3 rfl rfl ?_
    refine jj_get hJ lay_X4 dX4_lengthsFrom_39 0 5 rfl rfl (Nat.le_of_ble_eq_true rfl) kw_2 rfl ?_
    refine jj_icmp_ge hJ 73 dX4_lengthsFrom_42 rfl (fun c1 => ?_) (fun c1 => ?_)
    · replace hF := ip c1 hF
      refine jj_lv hJ [1, 2, 3, 4, 5] (lv' := [(4, .int v4), (5, .int v5), (0, .ref (SA 0)), (2, .int a2), (3, .ref YA)]) rfl ?_
      exact w_X4_lengthsFrom_73 hJ hk16 v4 v5 Y_x hF
    · replace hF := iq c1 hF
      refine jj_iload_n hJ dX4_lengthsFrom_45 4 rfl rfl ?_
      refine jj_iload hJ dX4_lengthsFrom_46 0 rfl ?_
      refine jj_ishr hJ dX4_lengthsFrom_48 ?_
      refine jj_iconst hJ dX4_lengthsFrom_49 ic_1 ?_
      refine jj_iand hJ dX4_lengthsFrom_50 ?_
      refine jj_if_ne hJ 67 dX4_lengthsFrom_51 rfl (fun c2 => ?_) (fun c2 => ?_)
      · replace hF := iq c2 hF
        refine jj_iinc hJ dX4_lengthsFrom_67 0 rfl (v := v6 + 1) (by rw [ic_1]) (Nat.le_of_ble_eq_true rfl) (lv' := [(6, .int (v6 + 1)), (4, .int v4), (5, .int v5), (0, .ref (SA 0)), (2, .int a2), (3, .ref YA)]) rfl ?_
        refine jj_goto hJ 36 dX4_lengthsFrom_70 rfl ?_
        exact ih (v6 + 1) v4 v5 Y_x hF
      · replace hF := ip c2 hF
        refine jj_aload_n hJ dX4_lengthsFrom_54 3 rfl rfl ?_
        refine jj_iload hJ dX4_lengthsFrom_55 0 rfl ?_
        refine jj_aload_n hJ dX4_lengthsFrom_57 5 rfl rfl ?_
        obtain ⟨⟨r4, g5⟩, h3, hF⟩ := ob hF
        refine jj_callV hJ (c_X4_lengthen l D cI cS cII SA YA S_k S_f S_t S_w S_l S_b Y_x v6 h3) dX4_lengthsFrom_58 kw_11 ⟨Nat.le_of_ble_eq_true rfl, Nat.le_of_ble_eq_true rfl, rfl, rfl⟩ kw_10 kw_12 kw_13 0 rfl rfl rfl rfl (Nat.le_of_ble_eq_true rfl) [0, 1, 2, 3, 4, 5] rfl rfl (wn := (W_X4_lengthsFrom cI cS cII SA YA S_k S_f S_t S_w S_l S_b g5)) (jNew_sel rfl [some 0, some 1, some 2, some 3, some 4, some 5] (by decide +kernel) rfl) ?_
        refine jj_if_eq hJ 67 dX4_lengthsFrom_61 rfl (fun c6 => ?_) (fun c6 => ?_)
        · replace hF := ip c6 hF
          refine jj_iinc hJ dX4_lengthsFrom_67 0 rfl (v := v6 + 1) (by rw [ic_1]) (Nat.le_of_ble_eq_true rfl) (lv' := [(6, .int (v6 + 1)), (4, .int v4), (5, .int v5), (0, .ref (SA 0)), (2, .int a2), (3, .ref YA)]) rfl ?_
          refine jj_goto hJ 36 dX4_lengthsFrom_70 rfl ?_
          exact ih (v6 + 1) v4 v5 g5 hF
        · replace hF := iq c6 hF
          refine jj_iconst hJ dX4_lengthsFrom_64 ic_1 ?_
          refine jj_istore hJ dX4_lengthsFrom_65 (Nat.le_of_ble_eq_true rfl) (lv' := [(4, .int 1), (6, .int v6), (5, .int v5), (0, .ref (SA 0)), (2, .int a2), (3, .ref YA)]) rfl ?_
          refine jj_iinc hJ dX4_lengthsFrom_67 1 rfl (v := v6 + 1) (by rw [ic_1]) (Nat.le_of_ble_eq_true rfl) (lv' := [(6, .int (v6 + 1)), (4, .int 1), (5, .int v5), (0, .ref (SA 0)), (2, .int a2), (3, .ref YA)]) rfl ?_
          refine jj_goto hJ 36 dX4_lengthsFrom_70 rfl ?_
          exact ih (v6 + 1) 1 v5 g5 hF
def q_X4_lengthsFrom_16 (S_f : Nat → Int32) (S_t : Nat → Int32) (S_w : Nat → Int32) (S_l : Int32) (S_b : Int32) (a1 : Int32) (a2 : Int32)  : Nat → Int32 → Int32 → (Nat → Int32) → Option (Nat → Int32)
  | 0, _, _, _ => none
  | n + 1, v5, v4, Y_x => if S_l ≤ v5 then (some Y_x) else (if v4 = 0 then (some Y_x) else (q_X4_lengthsFrom_36 S_f S_t S_w S_l S_b a1 a2 (q_X4_lengthsFrom_16 S_f S_t S_w S_l S_b a1 a2 n) FU 0 0 v5 Y_x))
set_option maxRecDepth 100000 in
theorem w_X4_lengthsFrom_16 {S_k : Nat → Int32} {S_f : Nat → Int32} {S_t : Nat → Int32} {S_w : Nat → Int32} {S_l : Int32} {S_b : Int32} {a1 : Int32} {a2 : Int32}  (hJ : jJ l cX4_lengthsFrom 7 D (tysU cI cS cII) RX4 Rm_X4_lengthsFrom none A none (W_X4_lengthsFrom cI cS cII SA YA S_k S_f S_t S_w S_l S_b z_Y_x) J)  : ∀ (n : Nat) (v5 : Int32) (v4 : Int32) (Y_x : Nat → Int32), q_X4_lengthsFrom_16 S_f S_t S_w S_l S_b a1 a2 n v5 v4 Y_x = some z_Y_x → J (W_X4_lengthsFrom cI cS cII SA YA S_k S_f S_t S_w S_l S_b Y_x) 16 [(5, .int v5), (4, .int v4), (0, .ref (SA 0)), (2, .int a2), (3, .ref YA)] [] := by
  intro n
  induction n with
  | zero =>
    intro v5 v4 Y_x hF
    exact no_some (show (none : Option (Nat → Int32)) = some z_Y_x from hF)
  | succ n ih =>
    intro v5 v4 Y_x hF
    rw [q_X4_lengthsFrom_16.eq_2] at hF
    refine jj_iload hJ dX4_lengthsFrom_16 0 rfl ?_
    refine jj_aload_n hJ dX4_lengthsFrom_18 2 rfl rfl ?_
    refine jj_get hJ lay_X4 dX4_lengthsFrom_19 0 4 rfl rfl (Nat.le_of_ble_eq_true rfl) kw_0 rfl ?_
    refine jj_icmp_ge hJ 79 dX4_lengthsFrom_22 rfl (fun c1 => ?_) (fun c1 => ?_)
    · replace hF := ip c1 hF
      cases Option.some.inj hF
      exact jj_vret hJ dX4_lengthsFrom_79
    · replace hF := iq c1 hF
      refine jj_iload hJ dX4_lengthsFrom_25 1 rfl ?_
      refine jj_if_eq hJ 79 dX4_lengthsFrom_27 rfl (fun c2 => ?_) (fun c2 => ?_)
      · replace hF := ip c2 hF
        cases Option.some.inj hF
        exact jj_vret hJ dX4_lengthsFrom_79
      · replace hF := iq c2 hF
        refine jj_iconst hJ dX4_lengthsFrom_30 ic_0 ?_
        refine jj_istore hJ dX4_lengthsFrom_31 (Nat.le_of_ble_eq_true rfl) (lv' := [(4, .int 0), (5, .int v5), (0, .ref (SA 0)), (2, .int a2), (3, .ref YA)]) rfl ?_
        refine jj_iconst hJ dX4_lengthsFrom_33 ic_0 ?_
        refine jj_istore hJ dX4_lengthsFrom_34 (Nat.le_of_ble_eq_true rfl) (lv' := [(6, .int 0), (4, .int 0), (5, .int v5), (0, .ref (SA 0)), (2, .int a2), (3, .ref YA)]) rfl ?_
        exact w_X4_lengthsFrom_36 hJ (fun v5 v4 Y_x => ih v5 v4 Y_x) FU 0 0 v5 Y_x hF
def p_X4_lengthsFrom (S_f : Nat → Int32) (S_t : Nat → Int32) (S_w : Nat → Int32) (S_l : Int32) (S_b : Int32) (Y_x : Nat → Int32) (a1 : Int32) (a2 : Int32) : Option (Nat → Int32) := (p_J7_fill_53178 Y_x ((-1000000))).bind fun g2 => (wr g2 10 a1 0).bind fun g3 => q_X4_lengthsFrom_16 S_f S_t S_w S_l S_b a1 a2 FU 0 1 g3
end
set_option maxRecDepth 100000 in
theorem c_X4_lengthsFrom (l : Launch) (D : va_G) (cI cS cII : ClassId) (SA : Nat → Nat) (YA : Nat) (S_k : Nat → Int32) (S_f : Nat → Int32) (S_t : Nat → Int32) (S_w : Nat → Int32) (S_l : Int32) (S_b : Int32) (Y_x : Nat → Int32) (a1 : Int32) (a2 : Int32) {z_Y_x : Nat → Int32} (hF : p_X4_lengthsFrom S_f S_t S_w S_l S_b Y_x a1 a2 = some z_Y_x) : MJ l yX4_lengthsFrom cX4_lengthsFrom 7 none Rm_X4_lengthsFrom D (tysU cI cS cII) [.ref (SA 0), .int a1, .int a2, .ref YA] (W_X4_lengthsFrom cI cS cII SA YA S_k S_f S_t S_w S_l S_b Y_x) none (W_X4_lengthsFrom cI cS cII SA YA S_k S_f S_t S_w S_l S_b z_Y_x) := by
  refine mj_of (own := RX4) (by decide) rfl (Nat.le_of_ble_eq_true rfl) (fun J hJ => ?_)
  show J (W_X4_lengthsFrom cI cS cII SA YA S_k S_f S_t S_w S_l S_b Y_x) 0 [(0, .ref (SA 0)), (1, .int a1), (2, .int a2), (3, .ref YA)] []
  unfold p_X4_lengthsFrom at hF
  refine jj_aload_n hJ dX4_lengthsFrom_0 3 rfl rfl ?_
  refine jj_ldc hJ dX4_lengthsFrom_1 kw_6 ?_
  obtain ⟨g2, h1, hF⟩ := ob hF
  refine jj_callS hJ (c_J7_fill_53178 l D cI cS cII YA Y_x ((-1000000)) h1) dX4_lengthsFrom_3 kw_7 ⟨Nat.le_of_ble_eq_true rfl, Nat.le_of_ble_eq_true rfl, rfl, rfl⟩ kw_8 kw_9 rfl rfl (Nat.le_of_ble_eq_true rfl) [5] rfl rfl (wn := (W_X4_lengthsFrom cI cS cII SA YA S_k S_f S_t S_w S_l S_b g2)) (jNew_sel rfl [none, none, none, none, none, some 0] (by decide +kernel) rfl) ?_
  refine jj_aload_n hJ dX4_lengthsFrom_6 3 rfl rfl ?_
  refine jj_iload_n hJ dX4_lengthsFrom_7 1 rfl rfl ?_
  refine jj_iconst hJ dX4_lengthsFrom_8 ic_0 ?_
  obtain ⟨g3, h4, hF⟩ := ob hF
  refine jj_iast hJ dX4_lengthsFrom_9 5 0 rfl rfl h4 (wn := (W_X4_lengthsFrom cI cS cII SA YA S_k S_f S_t S_w S_l S_b g3)) rfl ?_
  refine jj_iconst hJ dX4_lengthsFrom_10 ic_1 ?_
  refine jj_istore hJ dX4_lengthsFrom_11 (Nat.le_of_ble_eq_true rfl) (lv' := [(4, .int 1), (0, .ref (SA 0)), (1, .int a1), (2, .int a2), (3, .ref YA)]) rfl ?_
  refine jj_iconst hJ dX4_lengthsFrom_13 ic_0 ?_
  refine jj_istore hJ dX4_lengthsFrom_14 (Nat.le_of_ble_eq_true rfl) (lv' := [(5, .int 0), (4, .int 1), (0, .ref (SA 0)), (1, .int a1), (2, .int a2), (3, .ref YA)]) rfl ?_
  refine jj_lv hJ [0, 1, 2, 4, 5] (lv' := [(5, .int 0), (4, .int 1), (0, .ref (SA 0)), (2, .int a2), (3, .ref YA)]) rfl ?_
  exact w_X4_lengthsFrom_16 hJ  FU 0 1 g3 hF
section
def W_X4_copy (cI cS cII : ClassId) (SA : Nat → Nat) (PA : Nat → Nat) (S_k : Nat → Int32) (S_f : Nat → Int32) (S_t : Nat → Int32) (S_w : Nat → Int32) (S_l : Int32) (S_b : Int32) (P_k : Nat → Int32) (P_f : Nat → Int32) (P_t : Nat → Int32) (P_w : Nat → Int32) (P_l : Int32) (P_b : Int32) : va_W := [((SA 0), .inr (4, [.ref (SA 1), .ref (SA 2), .ref (SA 3), .ref (SA 4), .int S_l, .int S_b])), ((SA 1), .inl (cI, 10, .inl S_k)), ((SA 2), .inl (cI, 16, .inl S_f)), ((SA 3), .inl (cI, 16, .inl S_t)), ((SA 4), .inl (cI, 16, .inl S_w)), ((PA 0), .inr (4, [.ref (PA 1), .ref (PA 2), .ref (PA 3), .ref (PA 4), .int P_l, .int P_b])), ((PA 1), .inl (cI, 10, .inl P_k)), ((PA 2), .inl (cI, 16, .inl P_f)), ((PA 3), .inl (cI, 16, .inl P_t)), ((PA 4), .inl (cI, 16, .inl P_w))]
abbrev Rm_X4_copy : Room := { frames := 1, cells := 0, slots := 0, locals := 60 }
variable {l : Launch} {D : va_G} {cI cS cII : ClassId} {SA : Nat → Nat} {PA : Nat → Nat} {A : Nat → Prop} {J : jT}
variable {z_S_k : Nat → Int32} {z_S_f : Nat → Int32} {z_S_t : Nat → Int32} {z_S_w : Nat → Int32} {z_S_l : Int32} {z_S_b : Int32}
def p_X4_copy (S_k : Nat → Int32) (S_f : Nat → Int32) (S_t : Nat → Int32) (S_w : Nat → Int32) (S_l : Int32) (S_b : Int32) (P_k : Nat → Int32) (P_f : Nat → Int32) (P_t : Nat → Int32) (P_w : Nat → Int32) (P_l : Int32) (P_b : Int32) : Option ((Nat → Int32) × (Nat → Int32) × (Nat → Int32) × (Nat → Int32) × Int32 × Int32) := some (va_cpy P_k S_k 0 0 10, va_cpy P_f S_f 0 0 16, va_cpy P_t S_t 0 0 16, va_cpy P_w S_w 0 0 16, P_l, P_b)
end
set_option maxRecDepth 100000 in
theorem c_X4_copy (l : Launch) (D : va_G) (cI cS cII : ClassId) (SA : Nat → Nat) (PA : Nat → Nat) (S_k : Nat → Int32) (S_f : Nat → Int32) (S_t : Nat → Int32) (S_w : Nat → Int32) (S_l : Int32) (S_b : Int32) (P_k : Nat → Int32) (P_f : Nat → Int32) (P_t : Nat → Int32) (P_w : Nat → Int32) (P_l : Int32) (P_b : Int32)  {z_S_k : Nat → Int32} {z_S_f : Nat → Int32} {z_S_t : Nat → Int32} {z_S_w : Nat → Int32} {z_S_l : Int32} {z_S_b : Int32} (hF : p_X4_copy S_k S_f S_t S_w S_l S_b P_k P_f P_t P_w P_l P_b = some (z_S_k, z_S_f, z_S_t, z_S_w, z_S_l, z_S_b)) : MJ l yX4_copy cX4_copy 2 none Rm_X4_copy D (tysU cI cS cII) [.ref (SA 0), .ref (PA 0)] (W_X4_copy cI cS cII SA PA S_k S_f S_t S_w S_l S_b P_k P_f P_t P_w P_l P_b) none (W_X4_copy cI cS cII SA PA z_S_k z_S_f z_S_t z_S_w z_S_l z_S_b P_k P_f P_t P_w P_l P_b) := by
  refine mj_of (own := RX4) (by decide) rfl (Nat.le_of_ble_eq_true rfl) (fun J hJ => ?_)
  show J (W_X4_copy cI cS cII SA PA S_k S_f S_t S_w S_l S_b P_k P_f P_t P_w P_l P_b) 0 [(0, .ref (SA 0)), (1, .ref (PA 0))] []
  unfold p_X4_copy at hF
  refine jj_aload_n hJ dX4_copy_0 1 rfl rfl ?_
  refine jj_get hJ lay_X4 dX4_copy_1 5 0 rfl rfl (Nat.le_of_ble_eq_true rfl) kw_1 rfl ?_
  refine jj_iconst hJ dX4_copy_4 ic_0 ?_
  refine jj_aload_n hJ dX4_copy_5 0 rfl rfl ?_
  refine jj_get hJ lay_X4 dX4_copy_6 0 0 rfl rfl (Nat.le_of_ble_eq_true rfl) kw_1 rfl ?_
  refine jj_iconst hJ dX4_copy_9 ic_0 ?_
  refine jj_bipush hJ dX4_copy_10 bp_10 ?_
  refine jj_copy hJ dX4_copy_12 kw_14 kw_15 kw_16 kw_17 6 1 0 0 rfl rfl rfl rfl (by decide) (by decide) (by decide) (by decide) (by decide) (Nat.le_of_ble_eq_true rfl) (Nat.le_of_ble_eq_true rfl) (h := va_cpy P_k S_k 0 0 10) rfl (wn := (W_X4_copy cI cS cII SA PA (va_cpy P_k S_k 0 0 10) S_f S_t S_w S_l S_b P_k P_f P_t P_w P_l P_b)) rfl ?_
  refine jj_aload_n hJ dX4_copy_15 1 rfl rfl ?_
  refine jj_get hJ lay_X4 dX4_copy_16 5 1 rfl rfl (Nat.le_of_ble_eq_true rfl) kw_3 rfl ?_
  refine jj_iconst hJ dX4_copy_19 ic_0 ?_
  refine jj_aload_n hJ dX4_copy_20 0 rfl rfl ?_
  refine jj_get hJ lay_X4 dX4_copy_21 0 1 rfl rfl (Nat.le_of_ble_eq_true rfl) kw_3 rfl ?_
  refine jj_iconst hJ dX4_copy_24 ic_0 ?_
  refine jj_bipush hJ dX4_copy_25 bp_16 ?_
  refine jj_copy hJ dX4_copy_27 kw_14 kw_15 kw_16 kw_17 7 2 0 0 rfl rfl rfl rfl (by decide) (by decide) (by decide) (by decide) (by decide) (Nat.le_of_ble_eq_true rfl) (Nat.le_of_ble_eq_true rfl) (h := va_cpy P_f S_f 0 0 16) rfl (wn := (W_X4_copy cI cS cII SA PA (va_cpy P_k S_k 0 0 10) (va_cpy P_f S_f 0 0 16) S_t S_w S_l S_b P_k P_f P_t P_w P_l P_b)) rfl ?_
  refine jj_aload_n hJ dX4_copy_30 1 rfl rfl ?_
  refine jj_get hJ lay_X4 dX4_copy_31 5 2 rfl rfl (Nat.le_of_ble_eq_true rfl) kw_4 rfl ?_
  refine jj_iconst hJ dX4_copy_34 ic_0 ?_
  refine jj_aload_n hJ dX4_copy_35 0 rfl rfl ?_
  refine jj_get hJ lay_X4 dX4_copy_36 0 2 rfl rfl (Nat.le_of_ble_eq_true rfl) kw_4 rfl ?_
  refine jj_iconst hJ dX4_copy_39 ic_0 ?_
  refine jj_bipush hJ dX4_copy_40 bp_16 ?_
  refine jj_copy hJ dX4_copy_42 kw_14 kw_15 kw_16 kw_17 8 3 0 0 rfl rfl rfl rfl (by decide) (by decide) (by decide) (by decide) (by decide) (Nat.le_of_ble_eq_true rfl) (Nat.le_of_ble_eq_true rfl) (h := va_cpy P_t S_t 0 0 16) rfl (wn := (W_X4_copy cI cS cII SA PA (va_cpy P_k S_k 0 0 10) (va_cpy P_f S_f 0 0 16) (va_cpy P_t S_t 0 0 16) S_w S_l S_b P_k P_f P_t P_w P_l P_b)) rfl ?_
  refine jj_aload_n hJ dX4_copy_45 1 rfl rfl ?_
  refine jj_get hJ lay_X4 dX4_copy_46 5 3 rfl rfl (Nat.le_of_ble_eq_true rfl) kw_5 rfl ?_
  refine jj_iconst hJ dX4_copy_49 ic_0 ?_
  refine jj_aload_n hJ dX4_copy_50 0 rfl rfl ?_
  refine jj_get hJ lay_X4 dX4_copy_51 0 3 rfl rfl (Nat.le_of_ble_eq_true rfl) kw_5 rfl ?_
  refine jj_iconst hJ dX4_copy_54 ic_0 ?_
  refine jj_bipush hJ dX4_copy_55 bp_16 ?_
  refine jj_copy hJ dX4_copy_57 kw_14 kw_15 kw_16 kw_17 9 4 0 0 rfl rfl rfl rfl (by decide) (by decide) (by decide) (by decide) (by decide) (Nat.le_of_ble_eq_true rfl) (Nat.le_of_ble_eq_true rfl) (h := va_cpy P_w S_w 0 0 16) rfl (wn := (W_X4_copy cI cS cII SA PA (va_cpy P_k S_k 0 0 10) (va_cpy P_f S_f 0 0 16) (va_cpy P_t S_t 0 0 16) (va_cpy P_w S_w 0 0 16) S_l S_b P_k P_f P_t P_w P_l P_b)) rfl ?_
  refine jj_aload_n hJ dX4_copy_60 0 rfl rfl ?_
  refine jj_aload_n hJ dX4_copy_61 1 rfl rfl ?_
  refine jj_get hJ lay_X4 dX4_copy_62 5 4 rfl rfl (Nat.le_of_ble_eq_true rfl) kw_0 rfl ?_
  refine jj_puti hJ lay_X4 tyX4 tyX4_ok nmX4 dX4_copy_65 0 4 rfl rfl (Nat.le_of_ble_eq_true rfl) kw_0 rfl rfl (Nat.le_of_ble_eq_true rfl) (wn := (W_X4_copy cI cS cII SA PA (va_cpy P_k S_k 0 0 10) (va_cpy P_f S_f 0 0 16) (va_cpy P_t S_t 0 0 16) (va_cpy P_w S_w 0 0 16) P_l S_b P_k P_f P_t P_w P_l P_b)) rfl ?_
  refine jj_aload_n hJ dX4_copy_68 0 rfl rfl ?_
  refine jj_aload_n hJ dX4_copy_69 1 rfl rfl ?_
  refine jj_get hJ lay_X4 dX4_copy_70 5 5 rfl rfl (Nat.le_of_ble_eq_true rfl) kw_2 rfl ?_
  refine jj_puti hJ lay_X4 tyX4 tyX4_ok nmX4 dX4_copy_73 0 5 rfl rfl (Nat.le_of_ble_eq_true rfl) kw_2 rfl rfl (Nat.le_of_ble_eq_true rfl) (wn := (W_X4_copy cI cS cII SA PA (va_cpy P_k S_k 0 0 10) (va_cpy P_f S_f 0 0 16) (va_cpy P_t S_t 0 0 16) (va_cpy P_w S_w 0 0 16) P_l P_b P_k P_f P_t P_w P_l P_b)) rfl ?_
  cases Option.some.inj hF
  exact jj_vret hJ dX4_copy_76
