theorem kw_18 : ((RX1, 16, (TX4 4).1, (TX4 4).2.1, (TX4 4).2.2.1, "UniverseLevels") : String × Nat × String × String × String × String) ∈ nestF := List.mem_of_getElem? (i := 12) rfl
theorem kw_19 : Cond.fieldLink RX1 22 (TX1 1).1 (TX1 1).2.1 (TX1 1).2.2.1 ∈ lw_tbl := tb1 (i := 97) rfl
theorem kw_20 : Cond.fieldLink RX1 11 (TX1 0).1 (TX1 0).2.1 (TX1 0).2.2.1 ∈ lw_tbl := tb1 (i := 93) rfl
theorem kw_21 : ((RX1, 23, yX4_lengthsFrom, "UniverseLevels") : String × Nat × MethodName × String) ∈ nestM := List.mem_of_getElem? (i := 11) rfl
theorem kw_22 : cwOk yX4_lengthsFrom cX4_lengthsFrom 7 none 3 := ⟨tb2 (i := 17) rfl, tb1 (i := 3) rfl, by decide, by decide, by decide +kernel⟩
theorem kw_23 : Cond.instanceMethod yX4_lengthsFrom ∈ lw_tbl := tb2 (i := 16) rfl
theorem kw_24 : Cond.selects RX4 yX4_lengthsFrom yX4_lengthsFrom ∈ lw_tbl := tsel (i := 9) (q := (⟨"UniverseLevels$State", "lengthsFrom", "(II[I)V"⟩, 6)) rfl
theorem kw_25 : Cond.constant RX1 27 (-1000000) ∈ lw_tbl := tb2 (i := 38) rfl
theorem kw_26 : Cond.methodLink RX1 28 yX1_leads ∈ lw_tbl := tb2 (i := 231) rfl
theorem kw_27 : cwOk yX1_leads cX1_leads 3 (some .boolean) 2 := ⟨tb2 (i := 37) rfl, tb1 (i := 4) rfl, by decide, by decide, by decide +kernel⟩
theorem kw_28 : Cond.instanceMethod yX1_leads ∈ lw_tbl := tb2 (i := 36) rfl
theorem kw_29 : Cond.selects RX1 yX1_leads yX1_leads ∈ lw_tbl := tsel (i := 13) (q := (⟨"UniverseLevels$Lengths", "leads", "(II)Z"⟩, 2)) rfl
theorem kw_30 : Cond.methodLink RX1 32 Lib.Math.max.name ∈ lw_tbl := tb2 (i := 152) rfl
theorem kw_31 : Cond.static Lib.Math.max.name ∈ lw_tbl := tb2 (i := 153) rfl
theorem kw_32 : Cond.initialized "java/lang/Math" ∈ lw_tbl := tb1 (i := 13) rfl
theorem kw_33 : Cond.code Lib.Math.max.name Lib.Math.max.code 2 (some .int) ∈ lw_tbl := tb2 (i := 154) rfl
theorem kw_34 : Cond.methodLink RX1 38 yX1_valueOf ∈ lw_tbl := tb3 (i := 108) rfl
theorem kw_35 : cwOk yX1_valueOf cX1_valueOf 4 (some .int) 1 := ⟨tb2 (i := 151) rfl, tb1 (i := 4) rfl, by decide, by decide, by decide +kernel⟩
theorem kw_36 : Cond.instanceMethod yX1_valueOf ∈ lw_tbl := tb2 (i := 150) rfl
theorem kw_37 : Cond.selects RX1 yX1_valueOf yX1_valueOf ∈ lw_tbl := tsel (i := 23) (q := (⟨"UniverseLevels$Lengths", "valueOf", "(I)I"⟩, 2)) rfl
section
def W_X1_measure (cI cS cII : ClassId) (SA : Nat → Nat) (LA : Nat → Nat) (S_k : Nat → Int32) (S_f : Nat → Int32) (S_t : Nat → Int32) (S_w : Nat → Int32) (S_l : Int32) (S_b : Int32) (L_G : Nat → Nat → Int32) (L_l : Int32) : va_W := ([((SA 0), .inr (4, [.ref (SA 1), .ref (SA 2), .ref (SA 3), .ref (SA 4), .int S_l, .int S_b])), ((SA 1), .inl (cI, 10, .inl S_k)), ((SA 2), .inl (cI, 16, .inl S_f)), ((SA 3), .inl (cI, 16, .inl S_t)), ((SA 4), .inl (cI, 16, .inl S_w)), ((LA 0), .inr (1, [.ref (LA 1), .int L_l])), ((LA 1), .inl (cII, 10, .inr (.inr (.inr (.inr (fun i => some (LA (i + 2))))))))] ++ rw10 cI (fun i => LA (i + 2)) L_G)
abbrev Rm_X1_measure : Room := { frames := 2, cells := 0, slots := 0, locals := 49 }
variable {l : Launch} {D : va_G} {cI cS cII : ClassId} {SA : Nat → Nat} {LA : Nat → Nat} {A : Nat → Prop} {J : jT}
variable {z_L_G : Nat → Nat → Int32} {z_L_l : Int32}
def q_X1_measure_10 (S_f : Nat → Int32) (S_t : Nat → Int32) (S_w : Nat → Int32) (S_l : Int32) (S_b : Int32)  : Nat → Int32 → (Nat → Nat → Int32) → Int32 → Option ((Nat → Nat → Int32) × Int32)
  | 0, _, _, _ => none
  | n + 1, v2, L_G, L_l => if L_l ≤ v2 then (some (L_G, L_l)) else ((ix 10 v2).bind fun j2 => (p_X4_lengthsFrom S_f S_t S_w S_l S_b (L_G j2) v2 0).bind fun g5 => q_X1_measure_10 S_f S_t S_w S_l S_b n (v2 + 1) (va_up L_G j2 g5) L_l)
set_option maxRecDepth 100000 in
theorem w_X1_measure_10 {S_k : Nat → Int32} {S_f : Nat → Int32} {S_t : Nat → Int32} {S_w : Nat → Int32} {S_l : Int32} {S_b : Int32}   (hJ : jJ l cX1_measure 3 D (tysU cI cS cII) RX1 Rm_X1_measure none A none (W_X1_measure cI cS cII SA LA S_k S_f S_t S_w S_l S_b z_L_G z_L_l) J)  : ∀ (n : Nat) (v2 : Int32) (L_G : Nat → Nat → Int32) (L_l : Int32), q_X1_measure_10 S_f S_t S_w S_l S_b n v2 L_G L_l = some (z_L_G, z_L_l) → J (W_X1_measure cI cS cII SA LA S_k S_f S_t S_w S_l S_b L_G L_l) 10 [(2, .int v2), (0, .ref (LA 0)), (1, .ref (SA 0))] [] := by
  intro n
  induction n with
  | zero =>
    intro v2 L_G L_l hF
    exact no_some (show (none : Option ((Nat → Nat → Int32) × Int32)) = some (z_L_G, z_L_l) from hF)
  | succ n ih =>
    intro v2 L_G L_l hF
    rw [q_X1_measure_10.eq_2] at hF
    refine jj_iload_n hJ dX1_measure_10 0 rfl rfl ?_
    refine jj_aload_n hJ dX1_measure_11 1 rfl rfl ?_
    refine jj_get hJ lay_X1 dX1_measure_12 5 1 rfl rfl (Nat.le_of_ble_eq_true rfl) kw_19 rfl ?_
    refine jj_icmp_ge hJ 36 dX1_measure_15 rfl (fun c1 => ?_) (fun c1 => ?_)
    · replace hF := ip c1 hF
      cases Option.some.inj hF
      exact jj_vret hJ dX1_measure_36
    · replace hF := iq c1 hF
      refine jj_aload_n hJ dX1_measure_18 2 rfl rfl ?_
      refine jj_iload_n hJ dX1_measure_19 0 rfl rfl ?_
      refine jj_iconst hJ dX1_measure_20 ic_0 ?_
      refine jj_aload_n hJ dX1_measure_21 1 rfl rfl ?_
      refine jj_get hJ lay_X1 dX1_measure_22 5 0 rfl rfl (Nat.le_of_ble_eq_true rfl) kw_20 rfl ?_
      refine jj_iload_n hJ dX1_measure_25 0 rfl rfl ?_
      obtain ⟨j2, h3, hF⟩ := ob hF
      refine jj_aald hJ dX1_measure_26 6 2 rfl rfl rfl (ix_some h3).1 (congrArg (fun i => some (LA (i + 2))) (ix_some h3).2.1) ?_
      obtain ⟨g5, h4, hF⟩ := ob hF
      refine jj_callN hJ (c_X4_lengthsFrom l D cI cS cII SA (LA (j2 + 2)) S_k S_f S_t S_w S_l S_b (L_G j2) v2 0 h4) dX1_measure_27 kw_22 ⟨Nat.le_of_ble_eq_true rfl, Nat.le_of_ble_eq_true rfl, rfl, rfl⟩ kw_21 kw_23 kw_24 0 rfl rfl rfl rfl (Nat.le_of_ble_eq_true rfl) [0, 1, 2, 3, 4, (7 + j2)] (by rcases lt10 (ix_some h3).2.2 with rfl | rfl | rfl | rfl | rfl | rfl | rfl | rfl | rfl | rfl <;> rfl) (by rcases lt10 (ix_some h3).2.2 with rfl | rfl | rfl | rfl | rfl | rfl | rfl | rfl | rfl | rfl <;> rfl) (wn := (W_X1_measure cI cS cII SA LA S_k S_f S_t S_w S_l S_b (va_up L_G j2 g5) L_l)) (by
      rcases lt10 (ix_some h3).2.2 with rfl | rfl | rfl | rfl | rfl | rfl | rfl | rfl | rfl | rfl
      · exact jNew_sel rfl [some 0, some 1, some 2, some 3, some 4, none, none, some 5, none, none, none, none, none, none, none, none, none] (by decide +kernel) rfl
      · exact jNew_sel rfl [some 0, some 1, some 2, some 3, some 4, none, none, none, some 5, none, none, none, none, none, none, none, none] (by decide +kernel) rfl
      · exact jNew_sel rfl [some 0, some 1, some 2, some 3, some 4, none, none, none, none, some 5, none, none, none, none, none, none, none] (by decide +kernel) rfl
      · exact jNew_sel rfl [some 0, some 1, some 2, some 3, some 4, none, none, none, none, none, some 5, none, none, none, none, none, none] (by decide +kernel) rfl
      · exact jNew_sel rfl [some 0, some 1, some 2, some 3, some 4, none, none, none, none, none, none, some 5, none, none, none, none, none] (by decide +kernel) rfl
      · exact jNew_sel rfl [some 0, some 1, some 2, some 3, some 4, none, none, none, none, none, none, none, some 5, none, none, none, none] (by decide +kernel) rfl
      · exact jNew_sel rfl [some 0, some 1, some 2, some 3, some 4, none, none, none, none, none, none, none, none, some 5, none, none, none] (by decide +kernel) rfl
      · exact jNew_sel rfl [some 0, some 1, some 2, some 3, some 4, none, none, none, none, none, none, none, none, none, some 5, none, none] (by decide +kernel) rfl
      · exact jNew_sel rfl [some 0, some 1, some 2, some 3, some 4, none, none, none, none, none, none, none, none, none, none, some 5, none] (by decide +kernel) rfl
      · exact jNew_sel rfl [some 0, some 1, some 2, some 3, some 4, none, none, none, none, none, none, none, none, none, none, none, some 5] (by decide +kernel) rfl) ?_
      refine jj_iinc hJ dX1_measure_30 0 rfl (v := v2 + 1) (by rw [ic_1]) (Nat.le_of_ble_eq_true rfl) (lv' := [(2, .int (v2 + 1)), (0, .ref (LA 0)), (1, .ref (SA 0))]) rfl ?_
      refine jj_goto hJ 10 dX1_measure_33 rfl ?_
      exact ih (v2 + 1) (va_up L_G j2 g5) L_l hF
def p_X1_measure (S_f : Nat → Int32) (S_t : Nat → Int32) (S_w : Nat → Int32) (S_l : Int32) (S_b : Int32) (L_G : Nat → Nat → Int32) (L_l : Int32) : Option ((Nat → Nat → Int32) × Int32) := q_X1_measure_10 S_f S_t S_w S_l S_b FU 0 L_G S_l
end
set_option maxRecDepth 100000 in
theorem c_X1_measure (l : Launch) (D : va_G) (cI cS cII : ClassId) (SA : Nat → Nat) (LA : Nat → Nat) (S_k : Nat → Int32) (S_f : Nat → Int32) (S_t : Nat → Int32) (S_w : Nat → Int32) (S_l : Int32) (S_b : Int32) (L_G : Nat → Nat → Int32) (L_l : Int32)  {z_L_G : Nat → Nat → Int32} {z_L_l : Int32} (hF : p_X1_measure S_f S_t S_w S_l S_b L_G L_l = some (z_L_G, z_L_l)) : MJ l yX1_measure cX1_measure 3 none Rm_X1_measure D (tysU cI cS cII) [.ref (LA 0), .ref (SA 0)] (W_X1_measure cI cS cII SA LA S_k S_f S_t S_w S_l S_b L_G L_l) none (W_X1_measure cI cS cII SA LA S_k S_f S_t S_w S_l S_b z_L_G z_L_l) := by
  refine mj_of (own := RX1) (by decide) rfl (Nat.le_of_ble_eq_true rfl) (fun J hJ => ?_)
  show J (W_X1_measure cI cS cII SA LA S_k S_f S_t S_w S_l S_b L_G L_l) 0 [(0, .ref (LA 0)), (1, .ref (SA 0))] []
  unfold p_X1_measure at hF
  refine jj_aload_n hJ dX1_measure_0 0 rfl rfl ?_
  refine jj_aload_n hJ dX1_measure_1 1 rfl rfl ?_
  refine jj_getN hJ lay_X4 dX1_measure_2 0 4 rfl rfl (Nat.le_of_ble_eq_true rfl) kw_18 rfl ?_
  refine jj_puti hJ lay_X1 tyX1 tyX1_ok nmX1 dX1_measure_5 5 1 rfl rfl (Nat.le_of_ble_eq_true rfl) kw_19 rfl rfl (Nat.le_of_ble_eq_true rfl) (wn := (W_X1_measure cI cS cII SA LA S_k S_f S_t S_w S_l S_b L_G S_l)) rfl ?_
  refine jj_iconst hJ dX1_measure_8 ic_0 ?_
  refine jj_istore_n hJ dX1_measure_9 rfl (Nat.le_of_ble_eq_true rfl) (lv' := [(2, .int 0), (0, .ref (LA 0)), (1, .ref (SA 0))]) rfl ?_
  exact w_X1_measure_10 hJ  FU 0 L_G S_l hF
section
def W_X1_leads (cI cS cII : ClassId) (LA : Nat → Nat) (L_G : Nat → Nat → Int32) (L_l : Int32) : va_W := ([((LA 0), .inr (1, [.ref (LA 1), .int L_l])), ((LA 1), .inl (cII, 10, .inr (.inr (.inr (.inr (fun i => some (LA (i + 2))))))))] ++ rw10 cI (fun i => LA (i + 2)) L_G)
abbrev Rm_X1_leads : Room := { frames := 0, cells := 0, slots := 0, locals := 0 }
variable {l : Launch} {D : va_G} {cI cS cII : ClassId} {LA : Nat → Nat} {A : Nat → Prop} {J : jT}
variable {z_r : Int32}
def p_X1_leads (L_G : Nat → Nat → Int32) (a1 : Int32) (a2 : Int32) : Option (Int32) := (ix 10 a1).bind fun j1 => (rd (L_G j1) 10 a2).bind fun x3 => if x3 = ((-1000000)) then (some 0) else (some 1)
end
set_option maxRecDepth 100000 in
theorem c_X1_leads (l : Launch) (D : va_G) (cI cS cII : ClassId) (LA : Nat → Nat) (L_G : Nat → Nat → Int32) (L_l : Int32) (a1 : Int32) (a2 : Int32) {z_r : Int32} (hF : p_X1_leads L_G a1 a2 = some z_r) : MJ l yX1_leads cX1_leads 3 (some .boolean) Rm_X1_leads D (tysU cI cS cII) [.ref (LA 0), .int a1, .int a2] (W_X1_leads cI cS cII LA L_G L_l) (some z_r) (W_X1_leads cI cS cII LA L_G L_l) := by
  refine mj_of (own := RX1) (by decide) rfl (Nat.le_of_ble_eq_true rfl) (fun J hJ => ?_)
  show J (W_X1_leads cI cS cII LA L_G L_l) 0 [(0, .ref (LA 0)), (1, .int a1), (2, .int a2)] []
  unfold p_X1_leads at hF
  refine jj_aload_n hJ dX1_leads_0 0 rfl rfl ?_
  refine jj_get hJ lay_X1 dX1_leads_1 0 0 rfl rfl (Nat.le_of_ble_eq_true rfl) kw_20 rfl ?_
  refine jj_iload_n hJ dX1_leads_4 1 rfl rfl ?_
  obtain ⟨j1, h2, hF⟩ := ob hF
  refine jj_aald hJ dX1_leads_5 1 2 rfl rfl rfl (ix_some h2).1 (congrArg (fun i => some (LA (i + 2))) (ix_some h2).2.1) ?_
  refine jj_iload_n hJ dX1_leads_6 2 rfl rfl ?_
  obtain ⟨x3, h4, hF⟩ := ob hF
  refine jj_iald hJ dX1_leads_7 (2 + j1) 0 (rw10_get _ (ix_some h2).2.2) rfl h4 ?_
  refine jj_ldc hJ dX1_leads_8 kw_25 ?_
  refine jj_icmp_eq hJ 17 dX1_leads_10 rfl (fun c5 => ?_) (fun c5 => ?_)
  · replace hF := ip c5 hF
    refine jj_iconst hJ dX1_leads_17 ic_0 ?_
    cases Option.some.inj hF
    exact jj_zret hJ (Or.inl rfl) dX1_leads_18
  · replace hF := iq c5 hF
    refine jj_iconst hJ dX1_leads_13 ic_1 ?_
    refine jj_goto hJ 18 dX1_leads_14 rfl ?_
    cases Option.some.inj hF
    exact jj_zret hJ (Or.inr rfl) dX1_leads_18
section
def W_X1_implies (cI cS cII : ClassId) (LA : Nat → Nat) (L_G : Nat → Nat → Int32) (L_l : Int32) : va_W := ([((LA 0), .inr (1, [.ref (LA 1), .int L_l])), ((LA 1), .inl (cII, 10, .inr (.inr (.inr (.inr (fun i => some (LA (i + 2))))))))] ++ rw10 cI (fun i => LA (i + 2)) L_G)
abbrev Rm_X1_implies : Room := { frames := 1, cells := 0, slots := 0, locals := 22 }
variable {l : Launch} {D : va_G} {cI cS cII : ClassId} {LA : Nat → Nat} {A : Nat → Prop} {J : jT}
variable {z_r : Int32}
def p_X1_implies (L_G : Nat → Nat → Int32) (a1 : Int32) (a2 : Int32) (a3 : Int32) : Option (Int32) := (p_X1_leads L_G a1 a3).bind fun r2 => if r2 = 0 then (some 0) else ((ix 10 a1).bind fun j4 => (rd (L_G j4) 10 a3).bind fun x6 => if x6 < a2 then (some 0) else (some 1))
end
set_option maxRecDepth 100000 in
theorem c_X1_implies (l : Launch) (D : va_G) (cI cS cII : ClassId) (LA : Nat → Nat) (L_G : Nat → Nat → Int32) (L_l : Int32) (a1 : Int32) (a2 : Int32) (a3 : Int32) {z_r : Int32} (hF : p_X1_implies L_G a1 a2 a3 = some z_r) : MJ l yX1_implies cX1_implies 4 (some .boolean) Rm_X1_implies D (tysU cI cS cII) [.ref (LA 0), .int a1, .int a2, .int a3] (W_X1_implies cI cS cII LA L_G L_l) (some z_r) (W_X1_implies cI cS cII LA L_G L_l) := by
  refine mj_of (own := RX1) (by decide) rfl (Nat.le_of_ble_eq_true rfl) (fun J hJ => ?_)
  show J (W_X1_implies cI cS cII LA L_G L_l) 0 [(0, .ref (LA 0)), (1, .int a1), (2, .int a2), (3, .int a3)] []
  unfold p_X1_implies at hF
  refine jj_aload_n hJ dX1_implies_0 0 rfl rfl ?_
  refine jj_iload_n hJ dX1_implies_1 1 rfl rfl ?_
  refine jj_iload_n hJ dX1_implies_2 3 rfl rfl ?_
  obtain ⟨r2, h1, hF⟩ := ob hF
  refine jj_callV0 hJ (c_X1_leads l D cI cS cII LA L_G L_l a1 a3 h1) dX1_implies_3 kw_27 ⟨Nat.le_of_ble_eq_true rfl, Nat.le_of_ble_eq_true rfl, rfl, rfl⟩ kw_26 kw_28 kw_29 0 rfl rfl rfl rfl (Nat.le_of_ble_eq_true rfl) [0, 1, 2, 3, 4, 5, 6, 7, 8, 9, 10, 11] rfl rfl ?_
  refine jj_if_eq hJ 25 dX1_implies_6 rfl (fun c3 => ?_) (fun c3 => ?_)
  · replace hF := ip c3 hF
    refine jj_iconst hJ dX1_implies_25 ic_0 ?_
    cases Option.some.inj hF
    exact jj_zret hJ (Or.inl rfl) dX1_implies_26
  · replace hF := iq c3 hF
    refine jj_aload_n hJ dX1_implies_9 0 rfl rfl ?_
    refine jj_get hJ lay_X1 dX1_implies_10 0 0 rfl rfl (Nat.le_of_ble_eq_true rfl) kw_20 rfl ?_
    refine jj_iload_n hJ dX1_implies_13 1 rfl rfl ?_
    obtain ⟨j4, h5, hF⟩ := ob hF
    refine jj_aald hJ dX1_implies_14 1 2 rfl rfl rfl (ix_some h5).1 (congrArg (fun i => some (LA (i + 2))) (ix_some h5).2.1) ?_
    refine jj_iload_n hJ dX1_implies_15 3 rfl rfl ?_
    obtain ⟨x6, h7, hF⟩ := ob hF
    refine jj_iald hJ dX1_implies_16 (2 + j4) 0 (rw10_get _ (ix_some h5).2.2) rfl h7 ?_
    refine jj_iload_n hJ dX1_implies_17 2 rfl rfl ?_
    refine jj_icmp_lt hJ 25 dX1_implies_18 rfl (fun c8 => ?_) (fun c8 => ?_)
    · replace hF := ip c8 hF
      refine jj_iconst hJ dX1_implies_25 ic_0 ?_
      cases Option.some.inj hF
      exact jj_zret hJ (Or.inl rfl) dX1_implies_26
    · replace hF := iq c8 hF
      refine jj_iconst hJ dX1_implies_21 ic_1 ?_
      refine jj_goto hJ 26 dX1_implies_22 rfl ?_
      cases Option.some.inj hF
      exact jj_zret hJ (Or.inr rfl) dX1_implies_26
section
def W_X1_valueOf (cI cS cII : ClassId) (LA : Nat → Nat) (L_G : Nat → Nat → Int32) (L_l : Int32) : va_W := ([((LA 0), .inr (1, [.ref (LA 1), .int L_l])), ((LA 1), .inl (cII, 10, .inr (.inr (.inr (.inr (fun i => some (LA (i + 2))))))))] ++ rw10 cI (fun i => LA (i + 2)) L_G)
abbrev Rm_X1_valueOf : Room := { frames := 1, cells := 0, slots := 0, locals := 21 }
variable {l : Launch} {D : va_G} {cI cS cII : ClassId} {LA : Nat → Nat} {A : Nat → Prop} {J : jT}
variable {z_r : Int32}
def q_X1_valueOf_4 (L_G : Nat → Nat → Int32) (L_l : Int32) (a1 : Int32)  : Nat → Int32 → Int32 → Option (Int32)
  | 0, _, _ => none
  | n + 1, v3, v2 => if L_l ≤ v3 then (some v2) else ((ix 10 v3).bind fun j2 => (rd (L_G j2) 10 a1).bind fun x4 => q_X1_valueOf_4 L_G L_l a1 n (v3 + 1) (if v2 < x4 then x4 else v2))
set_option maxRecDepth 100000 in
theorem w_X1_valueOf_4 {L_G : Nat → Nat → Int32} {L_l : Int32} {a1 : Int32}  (hJ : jJ l cX1_valueOf 4 D (tysU cI cS cII) RX1 Rm_X1_valueOf (some .int) A (some z_r) (W_X1_valueOf cI cS cII LA L_G L_l) J)  : ∀ (n : Nat) (v3 : Int32) (v2 : Int32), q_X1_valueOf_4 L_G L_l a1 n v3 v2 = some z_r → J (W_X1_valueOf cI cS cII LA L_G L_l) 4 [(3, .int v3), (2, .int v2), (0, .ref (LA 0)), (1, .int a1)] [] := by
  intro n
  induction n with
  | zero =>
    intro v3 v2 hF
    exact no_some (show (none : Option (Int32)) = some z_r from hF)
  | succ n ih =>
    intro v3 v2 hF
    rw [q_X1_valueOf_4.eq_2] at hF
    refine jj_iload_n hJ dX1_valueOf_4 0 rfl rfl ?_
    refine jj_aload_n hJ dX1_valueOf_5 2 rfl rfl ?_
    refine jj_get hJ lay_X1 dX1_valueOf_6 0 1 rfl rfl (Nat.le_of_ble_eq_true rfl) kw_19 rfl ?_
    refine jj_icmp_ge hJ 31 dX1_valueOf_9 rfl (fun c1 => ?_) (fun c1 => ?_)
    · replace hF := ip c1 hF
      refine jj_iload_n hJ dX1_valueOf_31 1 rfl rfl ?_
      cases Option.some.inj hF
      exact jj_iret hJ dX1_valueOf_32
    · replace hF := iq c1 hF
      refine jj_iload_n hJ dX1_valueOf_12 1 rfl rfl ?_
      refine jj_aload_n hJ dX1_valueOf_13 2 rfl rfl ?_
      refine jj_get hJ lay_X1 dX1_valueOf_14 0 0 rfl rfl (Nat.le_of_ble_eq_true rfl) kw_20 rfl ?_
      refine jj_iload_n hJ dX1_valueOf_17 0 rfl rfl ?_
      obtain ⟨j2, h3, hF⟩ := ob hF
      refine jj_aald hJ dX1_valueOf_18 1 2 rfl rfl rfl (ix_some h3).1 (congrArg (fun i => some (LA (i + 2))) (ix_some h3).2.1) ?_
      refine jj_iload_n hJ dX1_valueOf_19 3 rfl rfl ?_
      obtain ⟨x4, h5, hF⟩ := ob hF
      refine jj_iald hJ dX1_valueOf_20 (2 + j2) 0 (rw10_get _ (ix_some h3).2.2) rfl h5 ?_
      refine jj_max hJ dX1_valueOf_21 kw_30 kw_31 kw_32 kw_33 (Nat.le_of_ble_eq_true rfl) (Nat.le_of_ble_eq_true rfl) ?_
      refine jj_istore_n hJ dX1_valueOf_24 rfl (Nat.le_of_ble_eq_true rfl) (lv' := [(2, .int (if v2 < x4 then x4 else v2)), (3, .int v3), (0, .ref (LA 0)), (1, .int a1)]) rfl ?_
      refine jj_iinc hJ dX1_valueOf_25 1 rfl (v := v3 + 1) (by rw [ic_1]) (Nat.le_of_ble_eq_true rfl) (lv' := [(3, .int (v3 + 1)), (2, .int (if v2 < x4 then x4 else v2)), (0, .ref (LA 0)), (1, .int a1)]) rfl ?_
      refine jj_goto hJ 4 dX1_valueOf_28 rfl ?_
      exact ih (v3 + 1) (if v2 < x4 then x4 else v2) hF
def p_X1_valueOf (L_G : Nat → Nat → Int32) (L_l : Int32) (a1 : Int32) : Option (Int32) := q_X1_valueOf_4 L_G L_l a1 FU 0 0
end
set_option maxRecDepth 100000 in
theorem c_X1_valueOf (l : Launch) (D : va_G) (cI cS cII : ClassId) (LA : Nat → Nat) (L_G : Nat → Nat → Int32) (L_l : Int32) (a1 : Int32) {z_r : Int32} (hF : p_X1_valueOf L_G L_l a1 = some z_r) : MJ l yX1_valueOf cX1_valueOf 4 (some .int) Rm_X1_valueOf D (tysU cI cS cII) [.ref (LA 0), .int a1] (W_X1_valueOf cI cS cII LA L_G L_l) (some z_r) (W_X1_valueOf cI cS cII LA L_G L_l) := by
  refine mj_of (own := RX1) (by decide) rfl (Nat.le_of_ble_eq_true rfl) (fun J hJ => ?_)
  show J (W_X1_valueOf cI cS cII LA L_G L_l) 0 [(0, .ref (LA 0)), (1, .int a1)] []
  unfold p_X1_valueOf at hF
  refine jj_iconst hJ dX1_valueOf_0 ic_0 ?_
  refine jj_istore_n hJ dX1_valueOf_1 rfl (Nat.le_of_ble_eq_true rfl) (lv' := [(2, .int 0), (0, .ref (LA 0)), (1, .int a1)]) rfl ?_
  refine jj_iconst hJ dX1_valueOf_2 ic_0 ?_
  refine jj_istore_n hJ dX1_valueOf_3 rfl (Nat.le_of_ble_eq_true rfl) (lv' := [(3, .int 0), (2, .int 0), (0, .ref (LA 0)), (1, .int a1)]) rfl ?_
  exact w_X1_valueOf_4 hJ  FU 0 0 hF
section
def W_X1_greatestValue (cI cS cII : ClassId) (LA : Nat → Nat) (L_G : Nat → Nat → Int32) (L_l : Int32) : va_W := ([((LA 0), .inr (1, [.ref (LA 1), .int L_l])), ((LA 1), .inl (cII, 10, .inr (.inr (.inr (.inr (fun i => some (LA (i + 2))))))))] ++ rw10 cI (fun i => LA (i + 2)) L_G)
abbrev Rm_X1_greatestValue : Room := { frames := 2, cells := 0, slots := 0, locals := 44 }
variable {l : Launch} {D : va_G} {cI cS cII : ClassId} {LA : Nat → Nat} {A : Nat → Prop} {J : jT}
variable {z_r : Int32}
def q_X1_greatestValue_4 (L_G : Nat → Nat → Int32) (L_l : Int32)  : Nat → Int32 → Int32 → Option (Int32)
  | 0, _, _ => none
  | n + 1, v2, v1 => if L_l ≤ v2 then (some v1) else ((p_X1_valueOf L_G L_l v2).bind fun r3 => q_X1_greatestValue_4 L_G L_l n (v2 + 1) (if v1 < r3 then r3 else v1))
set_option maxRecDepth 100000 in
theorem w_X1_greatestValue_4 {L_G : Nat → Nat → Int32} {L_l : Int32}   (hJ : jJ l cX1_greatestValue 3 D (tysU cI cS cII) RX1 Rm_X1_greatestValue (some .int) A (some z_r) (W_X1_greatestValue cI cS cII LA L_G L_l) J)  : ∀ (n : Nat) (v2 : Int32) (v1 : Int32), q_X1_greatestValue_4 L_G L_l n v2 v1 = some z_r → J (W_X1_greatestValue cI cS cII LA L_G L_l) 4 [(2, .int v2), (1, .int v1), (0, .ref (LA 0))] [] := by
  intro n
  induction n with
  | zero =>
    intro v2 v1 hF
    exact no_some (show (none : Option (Int32)) = some z_r from hF)
  | succ n ih =>
    intro v2 v1 hF
    rw [q_X1_greatestValue_4.eq_2] at hF
    refine jj_iload_n hJ dX1_greatestValue_4 0 rfl rfl ?_
    refine jj_aload_n hJ dX1_greatestValue_5 2 rfl rfl ?_
    refine jj_get hJ lay_X1 dX1_greatestValue_6 0 1 rfl rfl (Nat.le_of_ble_eq_true rfl) kw_19 rfl ?_
    refine jj_icmp_ge hJ 28 dX1_greatestValue_9 rfl (fun c1 => ?_) (fun c1 => ?_)
    · replace hF := ip c1 hF
      refine jj_iload_n hJ dX1_greatestValue_28 1 rfl rfl ?_
      cases Option.some.inj hF
      exact jj_iret hJ dX1_greatestValue_29
    · replace hF := iq c1 hF
      refine jj_iload_n hJ dX1_greatestValue_12 1 rfl rfl ?_
      refine jj_aload_n hJ dX1_greatestValue_13 2 rfl rfl ?_
      refine jj_iload_n hJ dX1_greatestValue_14 0 rfl rfl ?_
      obtain ⟨r3, h2, hF⟩ := ob hF
      refine jj_callV0 hJ (c_X1_valueOf l D cI cS cII LA L_G L_l v2 h2) dX1_greatestValue_15 kw_35 ⟨Nat.le_of_ble_eq_true rfl, Nat.le_of_ble_eq_true rfl, rfl, rfl⟩ kw_34 kw_36 kw_37 0 rfl rfl rfl rfl (Nat.le_of_ble_eq_true rfl) [0, 1, 2, 3, 4, 5, 6, 7, 8, 9, 10, 11] rfl rfl ?_
      refine jj_max hJ dX1_greatestValue_18 kw_30 kw_31 kw_32 kw_33 (Nat.le_of_ble_eq_true rfl) (Nat.le_of_ble_eq_true rfl) ?_
      refine jj_istore_n hJ dX1_greatestValue_21 rfl (Nat.le_of_ble_eq_true rfl) (lv' := [(1, .int (if v1 < r3 then r3 else v1)), (2, .int v2), (0, .ref (LA 0))]) rfl ?_
      refine jj_iinc hJ dX1_greatestValue_22 1 rfl (v := v2 + 1) (by rw [ic_1]) (Nat.le_of_ble_eq_true rfl) (lv' := [(2, .int (v2 + 1)), (1, .int (if v1 < r3 then r3 else v1)), (0, .ref (LA 0))]) rfl ?_
      refine jj_goto hJ 4 dX1_greatestValue_25 rfl ?_
      exact ih (v2 + 1) (if v1 < r3 then r3 else v1) hF
def p_X1_greatestValue (L_G : Nat → Nat → Int32) (L_l : Int32) : Option (Int32) := q_X1_greatestValue_4 L_G L_l FU 0 0
end
set_option maxRecDepth 100000 in
theorem c_X1_greatestValue (l : Launch) (D : va_G) (cI cS cII : ClassId) (LA : Nat → Nat) (L_G : Nat → Nat → Int32) (L_l : Int32)  {z_r : Int32} (hF : p_X1_greatestValue L_G L_l = some z_r) : MJ l yX1_greatestValue cX1_greatestValue 3 (some .int) Rm_X1_greatestValue D (tysU cI cS cII) [.ref (LA 0)] (W_X1_greatestValue cI cS cII LA L_G L_l) (some z_r) (W_X1_greatestValue cI cS cII LA L_G L_l) := by
  refine mj_of (own := RX1) (by decide) rfl (Nat.le_of_ble_eq_true rfl) (fun J hJ => ?_)
  show J (W_X1_greatestValue cI cS cII LA L_G L_l) 0 [(0, .ref (LA 0))] []
  unfold p_X1_greatestValue at hF
  refine jj_iconst hJ dX1_greatestValue_0 ic_0 ?_
  refine jj_istore_n hJ dX1_greatestValue_1 rfl (Nat.le_of_ble_eq_true rfl) (lv' := [(1, .int 0), (0, .ref (LA 0))]) rfl ?_
  refine jj_iconst hJ dX1_greatestValue_2 ic_0 ?_
  refine jj_istore_n hJ dX1_greatestValue_3 rfl (Nat.le_of_ble_eq_true rfl) (lv' := [(2, .int 0), (1, .int 0), (0, .ref (LA 0))]) rfl ?_
  exact w_X1_greatestValue_4 hJ  FU 0 0 hF
section
def W_X1_pairs (cI cS cII : ClassId) (LA : Nat → Nat) (L_G : Nat → Nat → Int32) (L_l : Int32) : va_W := ([((LA 0), .inr (1, [.ref (LA 1), .int L_l])), ((LA 1), .inl (cII, 10, .inr (.inr (.inr (.inr (fun i => some (LA (i + 2))))))))] ++ rw10 cI (fun i => LA (i + 2)) L_G)
abbrev Rm_X1_pairs : Room := { frames := 1, cells := 0, slots := 0, locals := 22 }
variable {l : Launch} {D : va_G} {cI cS cII : ClassId} {LA : Nat → Nat} {A : Nat → Prop} {J : jT}
variable {z_r : Int32}
def q_X1_pairs_45 (L_G : Nat → Nat → Int32) (L_l : Int32) (k4 : Int32 → Int32 → Option (Int32)) (v2 : Int32) (v1 : Int32) : Option (Int32) := k4 (v2 + 1) v1
set_option maxRecDepth 100000 in
theorem w_X1_pairs_45 {L_G : Nat → Nat → Int32} {L_l : Int32}  {k4 : Int32 → Int32 → Option (Int32)} (hJ : jJ l cX1_pairs 4 D (tysU cI cS cII) RX1 Rm_X1_pairs (some .int) A (some z_r) (W_X1_pairs cI cS cII LA L_G L_l) J) (hk4 : ∀ (v2 : Int32) (v1 : Int32), k4 v2 v1 = some z_r → J (W_X1_pairs cI cS cII LA L_G L_l) 4 [(2, .int v2), (1, .int v1), (0, .ref (LA 0))] []) : ∀ (v2 : Int32) (v1 : Int32), q_X1_pairs_45 L_G L_l k4 v2 v1 = some z_r → J (W_X1_pairs cI cS cII LA L_G L_l) 45 [(2, .int v2), (1, .int v1), (0, .ref (LA 0))] [] := by
  intro v2 v1 hF
  unfold q_X1_pairs_45 at hF
  refine jj_iinc hJ dX1_pairs_45 0 rfl (v := v2 + 1) (by rw [ic_1]) (Nat.le_of_ble_eq_true rfl) (lv' := [(2, .int (v2 + 1)), (1, .int v1), (0, .ref (LA 0))]) rfl ?_
  refine jj_goto hJ 4 dX1_pairs_48 rfl ?_
  exact hk4 (v2 + 1) v1 hF
def q_X1_pairs_14 (L_G : Nat → Nat → Int32) (L_l : Int32) (k4 : Int32 → Int32 → Option (Int32)) : Nat → Int32 → Int32 → Int32 → Option (Int32)
  | 0, _, _, _ => none
  | n + 1, v3, v2, v1 => if L_l ≤ v3 then (q_X1_pairs_45 L_G L_l k4 v2 v1) else (if v2 = v3 then (q_X1_pairs_14 L_G L_l k4 n (v3 + 1) v2 v1) else ((p_X1_leads L_G v2 v3).bind fun r4 => if r4 = 0 then (q_X1_pairs_14 L_G L_l k4 n (v3 + 1) v2 v1) else (q_X1_pairs_14 L_G L_l k4 n (v3 + 1) v2 (v1 + 1))))
set_option maxRecDepth 100000 in
theorem w_X1_pairs_14 {L_G : Nat → Nat → Int32} {L_l : Int32}  {k4 : Int32 → Int32 → Option (Int32)} (hJ : jJ l cX1_pairs 4 D (tysU cI cS cII) RX1 Rm_X1_pairs (some .int) A (some z_r) (W_X1_pairs cI cS cII LA L_G L_l) J) (hk4 : ∀ (v2 : Int32) (v1 : Int32), k4 v2 v1 = some z_r → J (W_X1_pairs cI cS cII LA L_G L_l) 4 [(2, .int v2), (1, .int v1), (0, .ref (LA 0))] []) : ∀ (n : Nat) (v3 : Int32) (v2 : Int32) (v1 : Int32), q_X1_pairs_14 L_G L_l k4 n v3 v2 v1 = some z_r → J (W_X1_pairs cI cS cII LA L_G L_l) 14 [(3, .int v3), (2, .int v2), (1, .int v1), (0, .ref (LA 0))] [] := by
  intro n
  induction n with
  | zero =>
    intro v3 v2 v1 hF
    exact no_some (show (none : Option (Int32)) = some z_r from hF)
  | succ n ih =>
    intro v3 v2 v1 hF
    rw [q_X1_pairs_14.eq_2] at hF
    refine jj_iload_n hJ dX1_pairs_14 0 rfl rfl ?_
    refine jj_aload_n hJ dX1_pairs_15 3 rfl rfl ?_
    refine jj_get hJ lay_X1 dX1_pairs_16 0 1 rfl rfl (Nat.le_of_ble_eq_true rfl) kw_19 rfl ?_
    refine jj_icmp_ge hJ 45 dX1_pairs_19 rfl (fun c1 => ?_) (fun c1 => ?_)
    · replace hF := ip c1 hF
      refine jj_lv hJ [1, 2, 3] (lv' := [(2, .int v2), (1, .int v1), (0, .ref (LA 0))]) rfl ?_
      exact w_X1_pairs_45 hJ hk4 v2 v1 hF
    · replace hF := iq c1 hF
      refine jj_iload_n hJ dX1_pairs_22 1 rfl rfl ?_
      refine jj_iload_n hJ dX1_pairs_23 0 rfl rfl ?_
      refine jj_icmp_eq hJ 39 dX1_pairs_24 rfl (fun c2 => ?_) (fun c2 => ?_)
      · replace hF := ip c2 hF
        refine jj_iinc hJ dX1_pairs_39 0 rfl (v := v3 + 1) (by rw [ic_1]) (Nat.le_of_ble_eq_true rfl) (lv' := [(3, .int (v3 + 1)), (2, .int v2), (1, .int v1), (0, .ref (LA 0))]) rfl ?_
        refine jj_goto hJ 14 dX1_pairs_42 rfl ?_
        exact ih (v3 + 1) v2 v1 hF
      · replace hF := iq c2 hF
        refine jj_aload_n hJ dX1_pairs_27 3 rfl rfl ?_
        refine jj_iload_n hJ dX1_pairs_28 1 rfl rfl ?_
        refine jj_iload_n hJ dX1_pairs_29 0 rfl rfl ?_
        obtain ⟨r4, h3, hF⟩ := ob hF
        refine jj_callV0 hJ (c_X1_leads l D cI cS cII LA L_G L_l v2 v3 h3) dX1_pairs_30 kw_27 ⟨Nat.le_of_ble_eq_true rfl, Nat.le_of_ble_eq_true rfl, rfl, rfl⟩ kw_26 kw_28 kw_29 0 rfl rfl rfl rfl (Nat.le_of_ble_eq_true rfl) [0, 1, 2, 3, 4, 5, 6, 7, 8, 9, 10, 11] rfl rfl ?_
        refine jj_if_eq hJ 39 dX1_pairs_33 rfl (fun c5 => ?_) (fun c5 => ?_)
        · replace hF := ip c5 hF
          refine jj_iinc hJ dX1_pairs_39 0 rfl (v := v3 + 1) (by rw [ic_1]) (Nat.le_of_ble_eq_true rfl) (lv' := [(3, .int (v3 + 1)), (2, .int v2), (1, .int v1), (0, .ref (LA 0))]) rfl ?_
          refine jj_goto hJ 14 dX1_pairs_42 rfl ?_
          exact ih (v3 + 1) v2 v1 hF
        · replace hF := iq c5 hF
          refine jj_iinc hJ dX1_pairs_36 2 rfl (v := v1 + 1) (by rw [ic_1]) (Nat.le_of_ble_eq_true rfl) (lv' := [(1, .int (v1 + 1)), (3, .int v3), (2, .int v2), (0, .ref (LA 0))]) rfl ?_
          refine jj_iinc hJ dX1_pairs_39 1 rfl (v := v3 + 1) (by rw [ic_1]) (Nat.le_of_ble_eq_true rfl) (lv' := [(3, .int (v3 + 1)), (1, .int (v1 + 1)), (2, .int v2), (0, .ref (LA 0))]) rfl ?_
          refine jj_goto hJ 14 dX1_pairs_42 rfl ?_
          refine jj_lv hJ [0, 2, 1, 3] (lv' := [(3, .int (v3 + 1)), (2, .int v2), (1, .int (v1 + 1)), (0, .ref (LA 0))]) rfl ?_
          exact ih (v3 + 1) v2 (v1 + 1) hF
def q_X1_pairs_4 (L_G : Nat → Nat → Int32) (L_l : Int32)  : Nat → Int32 → Int32 → Option (Int32)
  | 0, _, _ => none
  | n + 1, v2, v1 => if L_l ≤ v2 then (some v1) else (q_X1_pairs_14 L_G L_l (q_X1_pairs_4 L_G L_l n) FU 0 v2 v1)
set_option maxRecDepth 100000 in
theorem w_X1_pairs_4 {L_G : Nat → Nat → Int32} {L_l : Int32}   (hJ : jJ l cX1_pairs 4 D (tysU cI cS cII) RX1 Rm_X1_pairs (some .int) A (some z_r) (W_X1_pairs cI cS cII LA L_G L_l) J)  : ∀ (n : Nat) (v2 : Int32) (v1 : Int32), q_X1_pairs_4 L_G L_l n v2 v1 = some z_r → J (W_X1_pairs cI cS cII LA L_G L_l) 4 [(2, .int v2), (1, .int v1), (0, .ref (LA 0))] [] := by
  intro n
  induction n with
  | zero =>
    intro v2 v1 hF
    exact no_some (show (none : Option (Int32)) = some z_r from hF)
  | succ n ih =>
    intro v2 v1 hF
    rw [q_X1_pairs_4.eq_2] at hF
    refine jj_iload_n hJ dX1_pairs_4 0 rfl rfl ?_
    refine jj_aload_n hJ dX1_pairs_5 2 rfl rfl ?_
    refine jj_get hJ lay_X1 dX1_pairs_6 0 1 rfl rfl (Nat.le_of_ble_eq_true rfl) kw_19 rfl ?_
    refine jj_icmp_ge hJ 51 dX1_pairs_9 rfl (fun c1 => ?_) (fun c1 => ?_)
    · replace hF := ip c1 hF
      refine jj_iload_n hJ dX1_pairs_51 1 rfl rfl ?_
      cases Option.some.inj hF
      exact jj_iret hJ dX1_pairs_52
    · replace hF := iq c1 hF
      refine jj_iconst hJ dX1_pairs_12 ic_0 ?_
      refine jj_istore_n hJ dX1_pairs_13 rfl (Nat.le_of_ble_eq_true rfl) (lv' := [(3, .int 0), (2, .int v2), (1, .int v1), (0, .ref (LA 0))]) rfl ?_
      exact w_X1_pairs_14 hJ (fun v2 v1 => ih v2 v1) FU 0 v2 v1 hF
def p_X1_pairs (L_G : Nat → Nat → Int32) (L_l : Int32) : Option (Int32) := q_X1_pairs_4 L_G L_l FU 0 0
end
set_option maxRecDepth 100000 in
theorem c_X1_pairs (l : Launch) (D : va_G) (cI cS cII : ClassId) (LA : Nat → Nat) (L_G : Nat → Nat → Int32) (L_l : Int32)  {z_r : Int32} (hF : p_X1_pairs L_G L_l = some z_r) : MJ l yX1_pairs cX1_pairs 4 (some .int) Rm_X1_pairs D (tysU cI cS cII) [.ref (LA 0)] (W_X1_pairs cI cS cII LA L_G L_l) (some z_r) (W_X1_pairs cI cS cII LA L_G L_l) := by
  refine mj_of (own := RX1) (by decide) rfl (Nat.le_of_ble_eq_true rfl) (fun J hJ => ?_)
  show J (W_X1_pairs cI cS cII LA L_G L_l) 0 [(0, .ref (LA 0))] []
  unfold p_X1_pairs at hF
  refine jj_iconst hJ dX1_pairs_0 ic_0 ?_
  refine jj_istore_n hJ dX1_pairs_1 rfl (Nat.le_of_ble_eq_true rfl) (lv' := [(1, .int 0), (0, .ref (LA 0))]) rfl ?_
  refine jj_iconst hJ dX1_pairs_2 ic_0 ?_
  refine jj_istore_n hJ dX1_pairs_3 rfl (Nat.le_of_ble_eq_true rfl) (lv' := [(2, .int 0), (1, .int 0), (0, .ref (LA 0))]) rfl ?_
  exact w_X1_pairs_4 hJ  FU 0 0 hF
