theorem kw_53 : ((RX2, 47, (TX4 1).1, (TX4 1).2.1, (TX4 1).2.2.1, "UniverseLevels") : String × Nat × String × String × String × String) ∈ nestF := List.mem_of_getElem? (i := 3) rfl
theorem kw_54 : ((RX2, 50, (TX4 2).1, (TX4 2).2.1, (TX4 2).2.2.1, "UniverseLevels") : String × Nat × String × String × String × String) ∈ nestF := List.mem_of_getElem? (i := 6) rfl
theorem kw_55 : ((RX2, 59, (TX1 0).1, (TX1 0).2.1, (TX1 0).2.2.1, "UniverseLevels") : String × Nat × String × String × String × String) ∈ nestF := List.mem_of_getElem? (i := 19) rfl
theorem kw_56 : Cond.constant RX2 65 (-1000000) ∈ lw_tbl := tb2 (i := 51) rfl
theorem kw_57 : ((RX2, 66, (TX4 3).1, (TX4 3).2.1, (TX4 3).2.2.1, "UniverseLevels") : String × Nat × String × String × String × String) ∈ nestF := List.mem_of_getElem? (i := 10) rfl
theorem kw_58 : Cond.fieldLink RX2 15 (TX2 1).1 (TX2 1).2.1 (TX2 1).2.2.1 ∈ lw_tbl := tb1 (i := 149) rfl
theorem kw_59 : Cond.methodLink RX2 30 yJ7_fill_53178 ∈ lw_tbl := tb2 (i := 47) rfl
theorem kw_60 : ((RX2, 36, (TX4 4).1, (TX4 4).2.1, (TX4 4).2.2.1, "UniverseLevels") : String × Nat × String × String × String × String) ∈ nestF := List.mem_of_getElem? (i := 13) rfl
theorem kw_61 : ((RX2, 40, (TX4 5).1, (TX4 5).2.1, (TX4 5).2.2.1, "UniverseLevels") : String × Nat × String × String × String × String) ∈ nestF := List.mem_of_getElem? (i := 15) rfl
theorem kw_62 : cwOk yX2_isOnLongest cX2_isOnLongest 7 (some .boolean) 4 := ⟨tb2 (i := 50) rfl, tb1 (i := 7) rfl, by decide, by decide, by decide +kernel⟩
theorem kw_63 : Cond.methodLink RX2 43 yX2_isOnLongest ∈ lw_tbl := tb2 (i := 48) rfl
theorem kw_64 : Cond.static yX2_isOnLongest ∈ lw_tbl := tb2 (i := 49) rfl
theorem kw_65 : Cond.methodLink RX2 53 Lib.Math.min.name ∈ lw_tbl := tb2 (i := 52) rfl
theorem kw_66 : Cond.static Lib.Math.min.name ∈ lw_tbl := tb2 (i := 53) rfl
theorem kw_67 : Cond.code Lib.Math.min.name Lib.Math.min.code 2 (some .int) ∈ lw_tbl := tb2 (i := 54) rfl
theorem bp_m4 : (Int8.ofInt (-4)).toInt32 = (-4 : Int32) := by decide
theorem kw_68 : Cond.methodLink RX2 18 yX2_countFewest ∈ lw_tbl := tb2 (i := 43) rfl
theorem kw_69 : cwOk yX2_countFewest cX2_countFewest 7 none 3 := ⟨tb2 (i := 46) rfl, tb1 (i := 7) rfl, by decide, by decide, by decide +kernel⟩
theorem kw_70 : Cond.instanceMethod yX2_countFewest ∈ lw_tbl := tb2 (i := 45) rfl
theorem kw_71 : Cond.selects RX2 yX2_countFewest yX2_countFewest ∈ lw_tbl := tsel (i := 15) (q := (⟨"UniverseLevels$Round", "countFewest", "(LUniverseLevels$State;LUniverseLevels$Lengths;I)V"⟩, 4)) rfl
theorem kw_72 : Cond.fieldLink RX2 22 (TX2 2).1 (TX2 2).2.1 (TX2 2).2.2.1 ∈ lw_tbl := tb1 (i := 150) rfl
theorem kw_73 : Cond.fieldLink RX2 9 (TX2 0).1 (TX2 0).2.1 (TX2 0).2.2.1 ∈ lw_tbl := tb1 (i := 147) rfl
theorem kw_74 : Cond.methodLink RX2 26 yX2_nextLevel ∈ lw_tbl := tb2 (i := 55) rfl
theorem kw_75 : cwOk yX2_nextLevel cX2_nextLevel 8 (some .int) 4 := ⟨tb2 (i := 58) rfl, tb1 (i := 7) rfl, by decide, by decide, by decide +kernel⟩
theorem kw_76 : Cond.instanceMethod yX2_nextLevel ∈ lw_tbl := tb2 (i := 57) rfl
theorem kw_77 : Cond.selects RX2 yX2_nextLevel yX2_nextLevel ∈ lw_tbl := tsel (i := 16) (q := (⟨"UniverseLevels$Round", "nextLevel", "(LUniverseLevels$State;LUniverseLevels$Lengths;II)I"⟩, 4)) rfl
section
def W_X2_isOnLongest (cI cS cII : ClassId) (SA : Nat → Nat) (LA : Nat → Nat) (S_k : Nat → Int32) (S_f : Nat → Int32) (S_t : Nat → Int32) (S_w : Nat → Int32) (S_l : Int32) (S_b : Int32) (L_G : Nat → Nat → Int32) (L_l : Int32) : va_W := ([((SA 0), .inr (4, [.ref (SA 1), .ref (SA 2), .ref (SA 3), .ref (SA 4), .int S_l, .int S_b])), ((SA 1), .inl (cI, 10, .inl S_k)), ((SA 2), .inl (cI, 16, .inl S_f)), ((SA 3), .inl (cI, 16, .inl S_t)), ((SA 4), .inl (cI, 16, .inl S_w)), ((LA 0), .inr (1, [.ref (LA 1), .int L_l])), ((LA 1), .inl (cII, 10, .inr (.inr (.inr (.inr (fun i => some (LA (i + 2))))))))] ++ rw10 cI (fun i => LA (i + 2)) L_G)
abbrev Rm_X2_isOnLongest : Room := { frames := 0, cells := 0, slots := 0, locals := 0 }
variable {l : Launch} {D : va_G} {cI cS cII : ClassId} {SA : Nat → Nat} {LA : Nat → Nat} {A : Nat → Prop} {J : jT}
variable {z_r : Int32}
def p_X2_isOnLongest (S_f : Nat → Int32) (S_t : Nat → Int32) (S_w : Nat → Int32) (L_G : Nat → Nat → Int32) (a2 : Int32) (a3 : Int32) : Option (Int32) := (rd S_f 16 a2).bind fun x1 => (rd S_t 16 a2).bind fun x3 => (ix 10 x3).bind fun j5 => (rd (L_G j5) 10 a3).bind fun x7 => if x7 = ((-1000000)) then (some 0) else ((ix 10 x1).bind fun j10 => (rd (L_G j10) 10 a3).bind fun x12 => (rd S_w 16 a2).bind fun x14 => if x12 = (x14 + x7) then (some 1) else (some 0))
end
set_option maxRecDepth 100000 in
theorem c_X2_isOnLongest (l : Launch) (D : va_G) (cI cS cII : ClassId) (SA : Nat → Nat) (LA : Nat → Nat) (S_k : Nat → Int32) (S_f : Nat → Int32) (S_t : Nat → Int32) (S_w : Nat → Int32) (S_l : Int32) (S_b : Int32) (L_G : Nat → Nat → Int32) (L_l : Int32) (a2 : Int32) (a3 : Int32) {z_r : Int32} (hF : p_X2_isOnLongest S_f S_t S_w L_G a2 a3 = some z_r) : MJ l yX2_isOnLongest cX2_isOnLongest 7 (some .boolean) Rm_X2_isOnLongest D (tysU cI cS cII) [.ref (SA 0), .ref (LA 0), .int a2, .int a3] (W_X2_isOnLongest cI cS cII SA LA S_k S_f S_t S_w S_l S_b L_G L_l) (some z_r) (W_X2_isOnLongest cI cS cII SA LA S_k S_f S_t S_w S_l S_b L_G L_l) := by
  refine mj_of (own := RX2) (by decide) rfl (Nat.le_of_ble_eq_true rfl) (fun J hJ => ?_)
  show J (W_X2_isOnLongest cI cS cII SA LA S_k S_f S_t S_w S_l S_b L_G L_l) 0 [(0, .ref (SA 0)), (1, .ref (LA 0)), (2, .int a2), (3, .int a3)] []
  unfold p_X2_isOnLongest at hF
  refine jj_aload_n hJ dX2_isOnLongest_0 0 rfl rfl ?_
  refine jj_getN hJ lay_X4 dX2_isOnLongest_1 0 1 rfl rfl (Nat.le_of_ble_eq_true rfl) kw_53 rfl ?_
  refine jj_iload_n hJ dX2_isOnLongest_4 2 rfl rfl ?_
  obtain ⟨x1, h2, hF⟩ := ob hF
  refine jj_iald hJ dX2_isOnLongest_5 2 0 rfl rfl h2 ?_
  refine jj_istore hJ dX2_isOnLongest_6 (Nat.le_of_ble_eq_true rfl) (lv' := [(4, .int x1), (0, .ref (SA 0)), (1, .ref (LA 0)), (2, .int a2), (3, .int a3)]) rfl ?_
  refine jj_aload_n hJ dX2_isOnLongest_8 1 rfl rfl ?_
  refine jj_getN hJ lay_X4 dX2_isOnLongest_9 0 2 rfl rfl (Nat.le_of_ble_eq_true rfl) kw_54 rfl ?_
  refine jj_iload_n hJ dX2_isOnLongest_12 3 rfl rfl ?_
  obtain ⟨x3, h4, hF⟩ := ob hF
  refine jj_iald hJ dX2_isOnLongest_13 3 0 rfl rfl h4 ?_
  refine jj_istore hJ dX2_isOnLongest_14 (Nat.le_of_ble_eq_true rfl) (lv' := [(5, .int x3), (4, .int x1), (0, .ref (SA 0)), (1, .ref (LA 0)), (2, .int a2), (3, .int a3)]) rfl ?_
  refine jj_aload_n hJ dX2_isOnLongest_16 3 rfl rfl ?_
  refine jj_getN hJ lay_X1 dX2_isOnLongest_17 5 0 rfl rfl (Nat.le_of_ble_eq_true rfl) kw_55 rfl ?_
  refine jj_iload hJ dX2_isOnLongest_20 0 rfl ?_
  obtain ⟨j5, h6, hF⟩ := ob hF
  refine jj_aald hJ dX2_isOnLongest_22 6 2 rfl rfl rfl (ix_some h6).1 (congrArg (fun i => some (LA (i + 2))) (ix_some h6).2.1) ?_
  refine jj_iload_n hJ dX2_isOnLongest_23 5 rfl rfl ?_
  obtain ⟨x7, h8, hF⟩ := ob hF
  refine jj_iald hJ dX2_isOnLongest_24 (7 + j5) 0 (rw10_get _ (ix_some h6).2.2) rfl h8 ?_
  refine jj_istore hJ dX2_isOnLongest_25 (Nat.le_of_ble_eq_true rfl) (lv' := [(6, .int x7), (5, .int x3), (4, .int x1), (0, .ref (SA 0)), (1, .ref (LA 0)), (2, .int a2), (3, .int a3)]) rfl ?_
  refine jj_iload hJ dX2_isOnLongest_27 0 rfl ?_
  refine jj_ldc hJ dX2_isOnLongest_29 kw_56 ?_
  refine jj_icmp_eq hJ 59 dX2_isOnLongest_31 rfl (fun c9 => ?_) (fun c9 => ?_)
  · replace hF := ip c9 hF
    refine jj_iconst hJ dX2_isOnLongest_59 ic_0 ?_
    cases Option.some.inj hF
    exact jj_zret hJ (Or.inl rfl) dX2_isOnLongest_60
  · replace hF := iq c9 hF
    refine jj_aload_n hJ dX2_isOnLongest_34 4 rfl rfl ?_
    refine jj_getN hJ lay_X1 dX2_isOnLongest_35 5 0 rfl rfl (Nat.le_of_ble_eq_true rfl) kw_55 rfl ?_
    refine jj_iload hJ dX2_isOnLongest_38 2 rfl ?_
    obtain ⟨j10, h11, hF⟩ := ob hF
    refine jj_aald hJ dX2_isOnLongest_40 6 2 rfl rfl rfl (ix_some h11).1 (congrArg (fun i => some (LA (i + 2))) (ix_some h11).2.1) ?_
    refine jj_iload_n hJ dX2_isOnLongest_41 6 rfl rfl ?_
    obtain ⟨x12, h13, hF⟩ := ob hF
    refine jj_iald hJ dX2_isOnLongest_42 (7 + j10) 0 (rw10_get _ (ix_some h11).2.2) rfl h13 ?_
    refine jj_aload_n hJ dX2_isOnLongest_43 3 rfl rfl ?_
    refine jj_getN hJ lay_X4 dX2_isOnLongest_44 0 3 rfl rfl (Nat.le_of_ble_eq_true rfl) kw_57 rfl ?_
    refine jj_iload_n hJ dX2_isOnLongest_47 5 rfl rfl ?_
    obtain ⟨x14, h15, hF⟩ := ob hF
    refine jj_iald hJ dX2_isOnLongest_48 4 0 rfl rfl h15 ?_
    refine jj_iload hJ dX2_isOnLongest_49 0 rfl ?_
    refine jj_iadd hJ dX2_isOnLongest_51 ?_
    refine jj_icmp_ne hJ 59 dX2_isOnLongest_52 rfl (fun c16 => ?_) (fun c16 => ?_)
    · replace hF := iq c16 hF
      refine jj_iconst hJ dX2_isOnLongest_59 ic_0 ?_
      cases Option.some.inj hF
      exact jj_zret hJ (Or.inl rfl) dX2_isOnLongest_60
    · replace hF := ip c16 hF
      refine jj_iconst hJ dX2_isOnLongest_55 ic_1 ?_
      refine jj_goto hJ 60 dX2_isOnLongest_56 rfl ?_
      cases Option.some.inj hF
      exact jj_zret hJ (Or.inr rfl) dX2_isOnLongest_60
section
def W_X2_countFewest (cI cS cII : ClassId) (OA : Nat → Nat) (SA : Nat → Nat) (LA : Nat → Nat) (O_v : Nat → Int32) (O_n : Nat → Int32) (O_s : Int32) (O_a : Int32) (S_k : Nat → Int32) (S_f : Nat → Int32) (S_t : Nat → Int32) (S_w : Nat → Int32) (S_l : Int32) (S_b : Int32) (L_G : Nat → Nat → Int32) (L_l : Int32) : va_W := ([((OA 0), .inr (2, [.ref (OA 1), .ref (OA 2), .int O_s, .int O_a])), ((OA 1), .inl (cI, 10, .inl O_v)), ((OA 2), .inl (cI, 10, .inl O_n)), ((SA 0), .inr (4, [.ref (SA 1), .ref (SA 2), .ref (SA 3), .ref (SA 4), .int S_l, .int S_b])), ((SA 1), .inl (cI, 10, .inl S_k)), ((SA 2), .inl (cI, 16, .inl S_f)), ((SA 3), .inl (cI, 16, .inl S_t)), ((SA 4), .inl (cI, 16, .inl S_w)), ((LA 0), .inr (1, [.ref (LA 1), .int L_l])), ((LA 1), .inl (cII, 10, .inr (.inr (.inr (.inr (fun i => some (LA (i + 2))))))))] ++ rw10 cI (fun i => LA (i + 2)) L_G)
abbrev Rm_X2_countFewest : Room := { frames := 1, cells := 0, slots := 0, locals := 26 }
variable {l : Launch} {D : va_G} {cI cS cII : ClassId} {OA : Nat → Nat} {SA : Nat → Nat} {LA : Nat → Nat} {A : Nat → Prop} {J : jT}
variable {z_O_n : Nat → Int32}
def q_X2_countFewest_97 (S_f : Nat → Int32) (S_t : Nat → Int32) (S_w : Nat → Int32) (S_l : Int32) (S_b : Int32) (L_G : Nat → Nat → Int32) (a3 : Int32) (k19 : Int32 → (Nat → Int32) → Option (Nat → Int32)) (v4 : Int32) (O_n : Nat → Int32) : Option (Nat → Int32) := k19 (v4 + 1) O_n
set_option maxRecDepth 100000 in
theorem w_X2_countFewest_97 {O_v : Nat → Int32} {O_s : Int32} {O_a : Int32} {S_k : Nat → Int32} {S_f : Nat → Int32} {S_t : Nat → Int32} {S_w : Nat → Int32} {S_l : Int32} {S_b : Int32} {L_G : Nat → Nat → Int32} {L_l : Int32} {a3 : Int32} {k19 : Int32 → (Nat → Int32) → Option (Nat → Int32)} (hJ : jJ l cX2_countFewest 7 D (tysU cI cS cII) RX2 Rm_X2_countFewest none A none (W_X2_countFewest cI cS cII OA SA LA O_v z_O_n O_s O_a S_k S_f S_t S_w S_l S_b L_G L_l) J) (hk19 : ∀ (v4 : Int32) (O_n : Nat → Int32), k19 v4 O_n = some z_O_n → J (W_X2_countFewest cI cS cII OA SA LA O_v O_n O_s O_a S_k S_f S_t S_w S_l S_b L_G L_l) 19 [(4, .int v4), (0, .ref (OA 0)), (1, .ref (SA 0)), (2, .ref (LA 0)), (3, .int a3)] []) : ∀ (v4 : Int32) (O_n : Nat → Int32), q_X2_countFewest_97 S_f S_t S_w S_l S_b L_G a3 k19 v4 O_n = some z_O_n → J (W_X2_countFewest cI cS cII OA SA LA O_v O_n O_s O_a S_k S_f S_t S_w S_l S_b L_G L_l) 97 [(4, .int v4), (0, .ref (OA 0)), (1, .ref (SA 0)), (2, .ref (LA 0)), (3, .int a3)] [] := by
  intro v4 O_n hF
  unfold q_X2_countFewest_97 at hF
  refine jj_iinc hJ dX2_countFewest_97 0 rfl (v := v4 + 1) (by rw [ic_1]) (Nat.le_of_ble_eq_true rfl) (lv' := [(4, .int (v4 + 1)), (0, .ref (OA 0)), (1, .ref (SA 0)), (2, .ref (LA 0)), (3, .int a3)]) rfl ?_
  refine jj_goto hJ 19 dX2_countFewest_100 rfl ?_
  exact hk19 (v4 + 1) O_n hF
def q_X2_countFewest_31 (S_f : Nat → Int32) (S_t : Nat → Int32) (S_w : Nat → Int32) (S_l : Int32) (S_b : Int32) (L_G : Nat → Nat → Int32) (a3 : Int32) (k19 : Int32 → (Nat → Int32) → Option (Nat → Int32)) : Nat → Int32 → Int32 → (Nat → Int32) → Option (Nat → Int32)
  | 0, _, _, _ => none
  | n + 1, v5, v4, O_n => if S_b ≤ v5 then (q_X2_countFewest_97 S_f S_t S_w S_l S_b L_G a3 k19 v4 O_n) else ((p_X2_isOnLongest S_f S_t S_w L_G v5 a3).bind fun r3 => if r3 = 0 then (q_X2_countFewest_31 S_f S_t S_w S_l S_b L_G a3 k19 n (v5 + 1) v4 O_n) else ((rd S_f 16 v5).bind fun x5 => (rd O_n 10 x5).bind fun x7 => (rd S_t 16 v5).bind fun x9 => (rd O_n 10 x9).bind fun x11 => (wr O_n 10 x5 (if (x11 + 1) < x7 then (x11 + 1) else x7)).bind fun g13 => q_X2_countFewest_31 S_f S_t S_w S_l S_b L_G a3 k19 n (v5 + 1) v4 g13))
set_option maxRecDepth 100000 in
theorem w_X2_countFewest_31 {O_v : Nat → Int32} {O_s : Int32} {O_a : Int32} {S_k : Nat → Int32} {S_f : Nat → Int32} {S_t : Nat → Int32} {S_w : Nat → Int32} {S_l : Int32} {S_b : Int32} {L_G : Nat → Nat → Int32} {L_l : Int32} {a3 : Int32} {k19 : Int32 → (Nat → Int32) → Option (Nat → Int32)} (hJ : jJ l cX2_countFewest 7 D (tysU cI cS cII) RX2 Rm_X2_countFewest none A none (W_X2_countFewest cI cS cII OA SA LA O_v z_O_n O_s O_a S_k S_f S_t S_w S_l S_b L_G L_l) J) (hk19 : ∀ (v4 : Int32) (O_n : Nat → Int32), k19 v4 O_n = some z_O_n → J (W_X2_countFewest cI cS cII OA SA LA O_v O_n O_s O_a S_k S_f S_t S_w S_l S_b L_G L_l) 19 [(4, .int v4), (0, .ref (OA 0)), (1, .ref (SA 0)), (2, .ref (LA 0)), (3, .int a3)] []) : ∀ (n : Nat) (v5 : Int32) (v4 : Int32) (O_n : Nat → Int32), q_X2_countFewest_31 S_f S_t S_w S_l S_b L_G a3 k19 n v5 v4 O_n = some z_O_n → J (W_X2_countFewest cI cS cII OA SA LA O_v O_n O_s O_a S_k S_f S_t S_w S_l S_b L_G L_l) 31 [(5, .int v5), (4, .int v4), (0, .ref (OA 0)), (1, .ref (SA 0)), (2, .ref (LA 0)), (3, .int a3)] [] := by
  intro n
  induction n with
  | zero =>
    intro v5 v4 O_n hF
    exact no_some (show (none : Option (Nat → Int32)) = some z_O_n from hF)
  | succ n ih =>
    intro v5 v4 O_n hF
    rw [q_X2_countFewest_31.eq_2] at hF
    refine jj_iload hJ dX2_countFewest_31 0 rfl ?_
    refine jj_aload_n hJ dX2_countFewest_33 3 rfl rfl ?_
    refine jj_getN hJ lay_X4 dX2_countFewest_34 3 5 rfl rfl (Nat.le_of_ble_eq_true rfl) kw_61 rfl ?_
    refine jj_icmp_ge hJ 97 dX2_countFewest_37 rfl (fun c1 => ?_) (fun c1 => ?_)
    · replace hF := ip c1 hF
      refine jj_lv hJ [1, 2, 3, 4, 5] (lv' := [(4, .int v4), (0, .ref (OA 0)), (1, .ref (SA 0)), (2, .ref (LA 0)), (3, .int a3)]) rfl ?_
      exact w_X2_countFewest_97 hJ hk19 v4 O_n hF
    · replace hF := iq c1 hF
      refine jj_aload_n hJ dX2_countFewest_40 3 rfl rfl ?_
      refine jj_aload_n hJ dX2_countFewest_41 4 rfl rfl ?_
      refine jj_iload hJ dX2_countFewest_42 0 rfl ?_
      refine jj_iload_n hJ dX2_countFewest_44 5 rfl rfl ?_
      obtain ⟨r3, h2, hF⟩ := ob hF
      refine jj_callS0 hJ (c_X2_isOnLongest l D cI cS cII SA LA S_k S_f S_t S_w S_l S_b L_G L_l v5 a3 h2) dX2_countFewest_45 kw_62 ⟨Nat.le_of_ble_eq_true rfl, Nat.le_of_ble_eq_true rfl, rfl, rfl⟩ kw_63 kw_64 rfl rfl (Nat.le_of_ble_eq_true rfl) [3, 4, 5, 6, 7, 8, 9, 10, 11, 12, 13, 14, 15, 16, 17, 18, 19] rfl rfl ?_
      refine jj_if_eq hJ 91 dX2_countFewest_48 rfl (fun c4 => ?_) (fun c4 => ?_)
      · replace hF := ip c4 hF
        refine jj_iinc hJ dX2_countFewest_91 0 rfl (v := v5 + 1) (by rw [ic_1]) (Nat.le_of_ble_eq_true rfl) (lv' := [(5, .int (v5 + 1)), (4, .int v4), (0, .ref (OA 0)), (1, .ref (SA 0)), (2, .ref (LA 0)), (3, .int a3)]) rfl ?_
        refine jj_goto hJ 31 dX2_countFewest_94 rfl ?_
        exact ih (v5 + 1) v4 O_n hF
      · replace hF := iq c4 hF
        refine jj_aload_n hJ dX2_countFewest_51 3 rfl rfl ?_
        refine jj_getN hJ lay_X4 dX2_countFewest_52 3 1 rfl rfl (Nat.le_of_ble_eq_true rfl) kw_53 rfl ?_
        refine jj_iload hJ dX2_countFewest_55 0 rfl ?_
        obtain ⟨x5, h6, hF⟩ := ob hF
        refine jj_iald hJ dX2_countFewest_57 5 0 rfl rfl h6 ?_
        refine jj_istore hJ dX2_countFewest_58 (Nat.le_of_ble_eq_true rfl) (lv' := [(6, .int x5), (5, .int v5), (4, .int v4), (0, .ref (OA 0)), (1, .ref (SA 0)), (2, .ref (LA 0)), (3, .int a3)]) rfl ?_
        refine jj_aload_n hJ dX2_countFewest_60 3 rfl rfl ?_
        refine jj_get hJ lay_X2 dX2_countFewest_61 0 1 rfl rfl (Nat.le_of_ble_eq_true rfl) kw_58 rfl ?_
        refine jj_iload hJ dX2_countFewest_64 0 rfl ?_
        refine jj_aload_n hJ dX2_countFewest_66 3 rfl rfl ?_
        refine jj_get hJ lay_X2 dX2_countFewest_67 0 1 rfl rfl (Nat.le_of_ble_eq_true rfl) kw_58 rfl ?_
        refine jj_iload hJ dX2_countFewest_70 0 rfl ?_
        obtain ⟨x7, h8, hF⟩ := ob hF
        refine jj_iald hJ dX2_countFewest_72 2 0 rfl rfl h8 ?_
        refine jj_aload_n hJ dX2_countFewest_73 3 rfl rfl ?_
        refine jj_get hJ lay_X2 dX2_countFewest_74 0 1 rfl rfl (Nat.le_of_ble_eq_true rfl) kw_58 rfl ?_
        refine jj_aload_n hJ dX2_countFewest_77 4 rfl rfl ?_
        refine jj_getN hJ lay_X4 dX2_countFewest_78 3 2 rfl rfl (Nat.le_of_ble_eq_true rfl) kw_54 rfl ?_
        refine jj_iload hJ dX2_countFewest_81 1 rfl ?_
        obtain ⟨x9, h10, hF⟩ := ob hF
        refine jj_iald hJ dX2_countFewest_83 6 0 rfl rfl h10 ?_
        obtain ⟨x11, h12, hF⟩ := ob hF
        refine jj_iald hJ dX2_countFewest_84 2 0 rfl rfl h12 ?_
        refine jj_iconst hJ dX2_countFewest_85 ic_1 ?_
        refine jj_iadd hJ dX2_countFewest_86 ?_
        refine jj_min hJ dX2_countFewest_87 kw_65 kw_66 kw_32 kw_67 (Nat.le_of_ble_eq_true rfl) (Nat.le_of_ble_eq_true rfl) ?_
        obtain ⟨g13, h14, hF⟩ := ob hF
        refine jj_iast hJ dX2_countFewest_90 2 0 rfl rfl h14 (wn := (W_X2_countFewest cI cS cII OA SA LA O_v g13 O_s O_a S_k S_f S_t S_w S_l S_b L_G L_l)) rfl ?_
        refine jj_iinc hJ dX2_countFewest_91 1 rfl (v := v5 + 1) (by rw [ic_1]) (Nat.le_of_ble_eq_true rfl) (lv' := [(5, .int (v5 + 1)), (6, .int x5), (4, .int v4), (0, .ref (OA 0)), (1, .ref (SA 0)), (2, .ref (LA 0)), (3, .int a3)]) rfl ?_
        refine jj_goto hJ 31 dX2_countFewest_94 rfl ?_
        refine jj_lv hJ [0, 2, 3, 4, 5, 6] (lv' := [(5, .int (v5 + 1)), (4, .int v4), (0, .ref (OA 0)), (1, .ref (SA 0)), (2, .ref (LA 0)), (3, .int a3)]) rfl ?_
        exact ih (v5 + 1) v4 g13 hF
def q_X2_countFewest_19 (S_f : Nat → Int32) (S_t : Nat → Int32) (S_w : Nat → Int32) (S_l : Int32) (S_b : Int32) (L_G : Nat → Nat → Int32) (a3 : Int32)  : Nat → Int32 → (Nat → Int32) → Option (Nat → Int32)
  | 0, _, _ => none
  | n + 1, v4, O_n => if S_l ≤ v4 then (some O_n) else (q_X2_countFewest_31 S_f S_t S_w S_l S_b L_G a3 (q_X2_countFewest_19 S_f S_t S_w S_l S_b L_G a3 n) FU 0 v4 O_n)
set_option maxRecDepth 100000 in
theorem w_X2_countFewest_19 {O_v : Nat → Int32} {O_s : Int32} {O_a : Int32} {S_k : Nat → Int32} {S_f : Nat → Int32} {S_t : Nat → Int32} {S_w : Nat → Int32} {S_l : Int32} {S_b : Int32} {L_G : Nat → Nat → Int32} {L_l : Int32} {a3 : Int32}  (hJ : jJ l cX2_countFewest 7 D (tysU cI cS cII) RX2 Rm_X2_countFewest none A none (W_X2_countFewest cI cS cII OA SA LA O_v z_O_n O_s O_a S_k S_f S_t S_w S_l S_b L_G L_l) J)  : ∀ (n : Nat) (v4 : Int32) (O_n : Nat → Int32), q_X2_countFewest_19 S_f S_t S_w S_l S_b L_G a3 n v4 O_n = some z_O_n → J (W_X2_countFewest cI cS cII OA SA LA O_v O_n O_s O_a S_k S_f S_t S_w S_l S_b L_G L_l) 19 [(4, .int v4), (0, .ref (OA 0)), (1, .ref (SA 0)), (2, .ref (LA 0)), (3, .int a3)] [] := by
  intro n
  induction n with
  | zero =>
    intro v4 O_n hF
    exact no_some (show (none : Option (Nat → Int32)) = some z_O_n from hF)
  | succ n ih =>
    intro v4 O_n hF
    rw [q_X2_countFewest_19.eq_2] at hF
    refine jj_iload hJ dX2_countFewest_19 0 rfl ?_
    refine jj_aload_n hJ dX2_countFewest_21 2 rfl rfl ?_
    refine jj_getN hJ lay_X4 dX2_countFewest_22 3 4 rfl rfl (Nat.le_of_ble_eq_true rfl) kw_60 rfl ?_
    refine jj_icmp_ge hJ 103 dX2_countFewest_25 rfl (fun c1 => ?_) (fun c1 => ?_)
    · replace hF := ip c1 hF
      cases Option.some.inj hF
      exact jj_vret hJ dX2_countFewest_103
    · replace hF := iq c1 hF
      refine jj_iconst hJ dX2_countFewest_28 ic_0 ?_
      refine jj_istore hJ dX2_countFewest_29 (Nat.le_of_ble_eq_true rfl) (lv' := [(5, .int 0), (4, .int v4), (0, .ref (OA 0)), (1, .ref (SA 0)), (2, .ref (LA 0)), (3, .int a3)]) rfl ?_
      exact w_X2_countFewest_31 hJ (fun v4 O_n => ih v4 O_n) FU 0 v4 O_n hF
def p_X2_countFewest (O_n : Nat → Int32) (S_f : Nat → Int32) (S_t : Nat → Int32) (S_w : Nat → Int32) (S_l : Int32) (S_b : Int32) (L_G : Nat → Nat → Int32) (a3 : Int32) : Option (Nat → Int32) := (p_J7_fill_53178 O_n 10).bind fun g2 => (wr g2 10 a3 0).bind fun g3 => q_X2_countFewest_19 S_f S_t S_w S_l S_b L_G a3 FU 0 g3
end
set_option maxRecDepth 100000 in
theorem c_X2_countFewest (l : Launch) (D : va_G) (cI cS cII : ClassId) (OA : Nat → Nat) (SA : Nat → Nat) (LA : Nat → Nat) (O_v : Nat → Int32) (O_n : Nat → Int32) (O_s : Int32) (O_a : Int32) (S_k : Nat → Int32) (S_f : Nat → Int32) (S_t : Nat → Int32) (S_w : Nat → Int32) (S_l : Int32) (S_b : Int32) (L_G : Nat → Nat → Int32) (L_l : Int32) (a3 : Int32) {z_O_n : Nat → Int32} (hF : p_X2_countFewest O_n S_f S_t S_w S_l S_b L_G a3 = some z_O_n) : MJ l yX2_countFewest cX2_countFewest 7 none Rm_X2_countFewest D (tysU cI cS cII) [.ref (OA 0), .ref (SA 0), .ref (LA 0), .int a3] (W_X2_countFewest cI cS cII OA SA LA O_v O_n O_s O_a S_k S_f S_t S_w S_l S_b L_G L_l) none (W_X2_countFewest cI cS cII OA SA LA O_v z_O_n O_s O_a S_k S_f S_t S_w S_l S_b L_G L_l) := by
  refine mj_of (own := RX2) (by decide) rfl (Nat.le_of_ble_eq_true rfl) (fun J hJ => ?_)
  show J (W_X2_countFewest cI cS cII OA SA LA O_v O_n O_s O_a S_k S_f S_t S_w S_l S_b L_G L_l) 0 [(0, .ref (OA 0)), (1, .ref (SA 0)), (2, .ref (LA 0)), (3, .int a3)] []
  unfold p_X2_countFewest at hF
  refine jj_aload_n hJ dX2_countFewest_0 0 rfl rfl ?_
  refine jj_get hJ lay_X2 dX2_countFewest_1 0 1 rfl rfl (Nat.le_of_ble_eq_true rfl) kw_58 rfl ?_
  refine jj_bipush hJ dX2_countFewest_4 bp_10 ?_
  obtain ⟨g2, h1, hF⟩ := ob hF
  refine jj_callS hJ (c_J7_fill_53178 l D cI cS cII (OA 2) O_n 10 h1) dX2_countFewest_6 kw_7 ⟨Nat.le_of_ble_eq_true rfl, Nat.le_of_ble_eq_true rfl, rfl, rfl⟩ kw_59 kw_9 rfl rfl (Nat.le_of_ble_eq_true rfl) [2] rfl rfl (wn := (W_X2_countFewest cI cS cII OA SA LA O_v g2 O_s O_a S_k S_f S_t S_w S_l S_b L_G L_l)) (jNew_sel rfl [none, none, some 0, none, none, none, none, none, none, none, none, none, none, none, none, none, none, none, none, none] (by decide +kernel) rfl) ?_
  refine jj_aload_n hJ dX2_countFewest_9 0 rfl rfl ?_
  refine jj_get hJ lay_X2 dX2_countFewest_10 0 1 rfl rfl (Nat.le_of_ble_eq_true rfl) kw_58 rfl ?_
  refine jj_iload_n hJ dX2_countFewest_13 3 rfl rfl ?_
  refine jj_iconst hJ dX2_countFewest_14 ic_0 ?_
  obtain ⟨g3, h4, hF⟩ := ob hF
  refine jj_iast hJ dX2_countFewest_15 2 0 rfl rfl h4 (wn := (W_X2_countFewest cI cS cII OA SA LA O_v g3 O_s O_a S_k S_f S_t S_w S_l S_b L_G L_l)) rfl ?_
  refine jj_iconst hJ dX2_countFewest_16 ic_0 ?_
  refine jj_istore hJ dX2_countFewest_17 (Nat.le_of_ble_eq_true rfl) (lv' := [(4, .int 0), (0, .ref (OA 0)), (1, .ref (SA 0)), (2, .ref (LA 0)), (3, .int a3)]) rfl ?_
  exact w_X2_countFewest_19 hJ  FU 0 g3 hF
section
def W_X2_nextLevel (cI cS cII : ClassId) (OA : Nat → Nat) (SA : Nat → Nat) (LA : Nat → Nat) (O_v : Nat → Int32) (O_n : Nat → Int32) (O_s : Int32) (O_a : Int32) (S_k : Nat → Int32) (S_f : Nat → Int32) (S_t : Nat → Int32) (S_w : Nat → Int32) (S_l : Int32) (S_b : Int32) (L_G : Nat → Nat → Int32) (L_l : Int32) : va_W := ([((OA 0), .inr (2, [.ref (OA 1), .ref (OA 2), .int O_s, .int O_a])), ((OA 1), .inl (cI, 10, .inl O_v)), ((OA 2), .inl (cI, 10, .inl O_n)), ((SA 0), .inr (4, [.ref (SA 1), .ref (SA 2), .ref (SA 3), .ref (SA 4), .int S_l, .int S_b])), ((SA 1), .inl (cI, 10, .inl S_k)), ((SA 2), .inl (cI, 16, .inl S_f)), ((SA 3), .inl (cI, 16, .inl S_t)), ((SA 4), .inl (cI, 16, .inl S_w)), ((LA 0), .inr (1, [.ref (LA 1), .int L_l])), ((LA 1), .inl (cII, 10, .inr (.inr (.inr (.inr (fun i => some (LA (i + 2))))))))] ++ rw10 cI (fun i => LA (i + 2)) L_G)
abbrev Rm_X2_nextLevel : Room := { frames := 1, cells := 0, slots := 0, locals := 26 }
variable {l : Launch} {D : va_G} {cI cS cII : ClassId} {OA : Nat → Nat} {SA : Nat → Nat} {LA : Nat → Nat} {A : Nat → Prop} {J : jT}
variable {z_r : Int32}
def q_X2_nextLevel_7 (O_n : Nat → Int32) (S_f : Nat → Int32) (S_t : Nat → Int32) (S_w : Nat → Int32) (S_b : Int32) (L_G : Nat → Nat → Int32) (a3 : Int32) (a4 : Int32)  : Nat → Int32 → Int32 → Option (Int32)
  | 0, _, _ => none
  | n + 1, v6, v5 => if S_b ≤ v6 then (some v5) else ((rd S_t 16 v6).bind fun x2 => (rd S_f 16 v6).bind fun x4 => if x4 = a3 then ((rd O_n 10 x2).bind fun x7 => (rd O_n 10 a3).bind fun x9 => if x7 = (x9 - 1) then ((p_X2_isOnLongest S_f S_t S_w L_G v6 a4).bind fun r13 => if r13 = 0 then (q_X2_nextLevel_7 O_n S_f S_t S_w S_b L_G a3 a4 n (v6 + 1) v5) else (if v5 = ((-4)) then (q_X2_nextLevel_7 O_n S_f S_t S_w S_b L_G a3 a4 n (v6 + 1) x2) else (if v5 ≤ x2 then (q_X2_nextLevel_7 O_n S_f S_t S_w S_b L_G a3 a4 n (v6 + 1) v5) else (q_X2_nextLevel_7 O_n S_f S_t S_w S_b L_G a3 a4 n (v6 + 1) x2)))) else (q_X2_nextLevel_7 O_n S_f S_t S_w S_b L_G a3 a4 n (v6 + 1) v5)) else (q_X2_nextLevel_7 O_n S_f S_t S_w S_b L_G a3 a4 n (v6 + 1) v5))
set_option maxRecDepth 100000 in
theorem w_X2_nextLevel_7 {O_v : Nat → Int32} {O_n : Nat → Int32} {O_s : Int32} {O_a : Int32} {S_k : Nat → Int32} {S_f : Nat → Int32} {S_t : Nat → Int32} {S_w : Nat → Int32} {S_l : Int32} {S_b : Int32} {L_G : Nat → Nat → Int32} {L_l : Int32} {a3 : Int32} {a4 : Int32}  (hJ : jJ l cX2_nextLevel 8 D (tysU cI cS cII) RX2 Rm_X2_nextLevel (some .int) A (some z_r) (W_X2_nextLevel cI cS cII OA SA LA O_v O_n O_s O_a S_k S_f S_t S_w S_l S_b L_G L_l) J)  : ∀ (n : Nat) (v6 : Int32) (v5 : Int32), q_X2_nextLevel_7 O_n S_f S_t S_w S_b L_G a3 a4 n v6 v5 = some z_r → J (W_X2_nextLevel cI cS cII OA SA LA O_v O_n O_s O_a S_k S_f S_t S_w S_l S_b L_G L_l) 7 [(6, .int v6), (5, .int v5), (0, .ref (OA 0)), (1, .ref (SA 0)), (2, .ref (LA 0)), (3, .int a3), (4, .int a4)] [] := by
  intro n
  induction n with
  | zero =>
    intro v6 v5 hF
    exact no_some (show (none : Option (Int32)) = some z_r from hF)
  | succ n ih =>
    intro v6 v5 hF
    rw [q_X2_nextLevel_7.eq_2] at hF
    refine jj_iload hJ dX2_nextLevel_7 0 rfl ?_
    refine jj_aload_n hJ dX2_nextLevel_9 3 rfl rfl ?_
    refine jj_getN hJ lay_X4 dX2_nextLevel_10 3 5 rfl rfl (Nat.le_of_ble_eq_true rfl) kw_61 rfl ?_
    refine jj_icmp_ge hJ 90 dX2_nextLevel_13 rfl (fun c1 => ?_) (fun c1 => ?_)
    · replace hF := ip c1 hF
      refine jj_iload hJ dX2_nextLevel_90 1 rfl ?_
      cases Option.some.inj hF
      exact jj_iret hJ dX2_nextLevel_92
    · replace hF := iq c1 hF
      refine jj_aload_n hJ dX2_nextLevel_16 3 rfl rfl ?_
      refine jj_getN hJ lay_X4 dX2_nextLevel_17 3 2 rfl rfl (Nat.le_of_ble_eq_true rfl) kw_54 rfl ?_
      refine jj_iload hJ dX2_nextLevel_20 0 rfl ?_
      obtain ⟨x2, h3, hF⟩ := ob hF
      refine jj_iald hJ dX2_nextLevel_22 6 0 rfl rfl h3 ?_
      refine jj_istore hJ dX2_nextLevel_23 (Nat.le_of_ble_eq_true rfl) (lv' := [(7, .int x2), (6, .int v6), (5, .int v5), (0, .ref (OA 0)), (1, .ref (SA 0)), (2, .ref (LA 0)), (3, .int a3), (4, .int a4)]) rfl ?_
      refine jj_aload_n hJ dX2_nextLevel_25 4 rfl rfl ?_
      refine jj_getN hJ lay_X4 dX2_nextLevel_26 3 1 rfl rfl (Nat.le_of_ble_eq_true rfl) kw_53 rfl ?_
      refine jj_iload hJ dX2_nextLevel_29 1 rfl ?_
      obtain ⟨x4, h5, hF⟩ := ob hF
      refine jj_iald hJ dX2_nextLevel_31 5 0 rfl rfl h5 ?_
      refine jj_iload_n hJ dX2_nextLevel_32 6 rfl rfl ?_
      refine jj_icmp_ne hJ 84 dX2_nextLevel_33 rfl (fun c6 => ?_) (fun c6 => ?_)
      · replace hF := iq c6 hF
        refine jj_iinc hJ dX2_nextLevel_84 1 rfl (v := v6 + 1) (by rw [ic_1]) (Nat.le_of_ble_eq_true rfl) (lv' := [(6, .int (v6 + 1)), (7, .int x2), (5, .int v5), (0, .ref (OA 0)), (1, .ref (SA 0)), (2, .ref (LA 0)), (3, .int a3), (4, .int a4)]) rfl ?_
        refine jj_goto hJ 7 dX2_nextLevel_87 rfl ?_
        refine jj_lv hJ [0, 2, 3, 4, 5, 6, 7] (lv' := [(6, .int (v6 + 1)), (5, .int v5), (0, .ref (OA 0)), (1, .ref (SA 0)), (2, .ref (LA 0)), (3, .int a3), (4, .int a4)]) rfl ?_
        exact ih (v6 + 1) v5 hF
      · replace hF := ip c6 hF
        refine jj_aload_n hJ dX2_nextLevel_36 3 rfl rfl ?_
        refine jj_get hJ lay_X2 dX2_nextLevel_37 0 1 rfl rfl (Nat.le_of_ble_eq_true rfl) kw_58 rfl ?_
        refine jj_iload hJ dX2_nextLevel_40 0 rfl ?_
        obtain ⟨x7, h8, hF⟩ := ob hF
        refine jj_iald hJ dX2_nextLevel_42 2 0 rfl rfl h8 ?_
        refine jj_aload_n hJ dX2_nextLevel_43 3 rfl rfl ?_
        refine jj_get hJ lay_X2 dX2_nextLevel_44 0 1 rfl rfl (Nat.le_of_ble_eq_true rfl) kw_58 rfl ?_
        refine jj_iload_n hJ dX2_nextLevel_47 6 rfl rfl ?_
        obtain ⟨x9, h10, hF⟩ := ob hF
        refine jj_iald hJ dX2_nextLevel_48 2 0 rfl rfl h10 ?_
        refine jj_iconst hJ dX2_nextLevel_49 ic_1 ?_
        refine jj_isub hJ dX2_nextLevel_50 ?_
        refine jj_icmp_ne hJ 84 dX2_nextLevel_51 rfl (fun c11 => ?_) (fun c11 => ?_)
        · replace hF := iq c11 hF
          refine jj_iinc hJ dX2_nextLevel_84 1 rfl (v := v6 + 1) (by rw [ic_1]) (Nat.le_of_ble_eq_true rfl) (lv' := [(6, .int (v6 + 1)), (7, .int x2), (5, .int v5), (0, .ref (OA 0)), (1, .ref (SA 0)), (2, .ref (LA 0)), (3, .int a3), (4, .int a4)]) rfl ?_
          refine jj_goto hJ 7 dX2_nextLevel_87 rfl ?_
          refine jj_lv hJ [0, 2, 3, 4, 5, 6, 7] (lv' := [(6, .int (v6 + 1)), (5, .int v5), (0, .ref (OA 0)), (1, .ref (SA 0)), (2, .ref (LA 0)), (3, .int a3), (4, .int a4)]) rfl ?_
          exact ih (v6 + 1) v5 hF
        · replace hF := ip c11 hF
          refine jj_aload_n hJ dX2_nextLevel_54 4 rfl rfl ?_
          refine jj_aload_n hJ dX2_nextLevel_55 5 rfl rfl ?_
          refine jj_iload hJ dX2_nextLevel_56 1 rfl ?_
          refine jj_iload hJ dX2_nextLevel_58 7 rfl ?_
          obtain ⟨r13, h12, hF⟩ := ob hF
          refine jj_callS0 hJ (c_X2_isOnLongest l D cI cS cII SA LA S_k S_f S_t S_w S_l S_b L_G L_l v6 a4 h12) dX2_nextLevel_60 kw_62 ⟨Nat.le_of_ble_eq_true rfl, Nat.le_of_ble_eq_true rfl, rfl, rfl⟩ kw_63 kw_64 rfl rfl (Nat.le_of_ble_eq_true rfl) [3, 4, 5, 6, 7, 8, 9, 10, 11, 12, 13, 14, 15, 16, 17, 18, 19] rfl rfl ?_
          refine jj_if_eq hJ 84 dX2_nextLevel_63 rfl (fun c14 => ?_) (fun c14 => ?_)
          · replace hF := ip c14 hF
            refine jj_iinc hJ dX2_nextLevel_84 1 rfl (v := v6 + 1) (by rw [ic_1]) (Nat.le_of_ble_eq_true rfl) (lv' := [(6, .int (v6 + 1)), (7, .int x2), (5, .int v5), (0, .ref (OA 0)), (1, .ref (SA 0)), (2, .ref (LA 0)), (3, .int a3), (4, .int a4)]) rfl ?_
            refine jj_goto hJ 7 dX2_nextLevel_87 rfl ?_
            refine jj_lv hJ [0, 2, 3, 4, 5, 6, 7] (lv' := [(6, .int (v6 + 1)), (5, .int v5), (0, .ref (OA 0)), (1, .ref (SA 0)), (2, .ref (LA 0)), (3, .int a3), (4, .int a4)]) rfl ?_
            exact ih (v6 + 1) v5 hF
          · replace hF := iq c14 hF
            refine jj_iload hJ dX2_nextLevel_66 2 rfl ?_
            refine jj_bipush hJ dX2_nextLevel_68 bp_m4 ?_
            refine jj_icmp_eq hJ 80 dX2_nextLevel_70 rfl (fun c15 => ?_) (fun c15 => ?_)
            · replace hF := ip c15 hF
              refine jj_iload hJ dX2_nextLevel_80 0 rfl ?_
              refine jj_istore hJ dX2_nextLevel_82 (Nat.le_of_ble_eq_true rfl) (lv' := [(5, .int x2), (7, .int x2), (6, .int v6), (0, .ref (OA 0)), (1, .ref (SA 0)), (2, .ref (LA 0)), (3, .int a3), (4, .int a4)]) rfl ?_
              refine jj_iinc hJ dX2_nextLevel_84 2 rfl (v := v6 + 1) (by rw [ic_1]) (Nat.le_of_ble_eq_true rfl) (lv' := [(6, .int (v6 + 1)), (5, .int x2), (7, .int x2), (0, .ref (OA 0)), (1, .ref (SA 0)), (2, .ref (LA 0)), (3, .int a3), (4, .int a4)]) rfl ?_
              refine jj_goto hJ 7 dX2_nextLevel_87 rfl ?_
              refine jj_lv hJ [0, 1, 3, 4, 5, 6, 7] (lv' := [(6, .int (v6 + 1)), (5, .int x2), (0, .ref (OA 0)), (1, .ref (SA 0)), (2, .ref (LA 0)), (3, .int a3), (4, .int a4)]) rfl ?_
              exact ih (v6 + 1) x2 hF
            · replace hF := iq c15 hF
              refine jj_iload hJ dX2_nextLevel_73 0 rfl ?_
              refine jj_iload hJ dX2_nextLevel_75 2 rfl ?_
              refine jj_icmp_ge hJ 84 dX2_nextLevel_77 rfl (fun c16 => ?_) (fun c16 => ?_)
              · replace hF := ip c16 hF
                refine jj_iinc hJ dX2_nextLevel_84 1 rfl (v := v6 + 1) (by rw [ic_1]) (Nat.le_of_ble_eq_true rfl) (lv' := [(6, .int (v6 + 1)), (7, .int x2), (5, .int v5), (0, .ref (OA 0)), (1, .ref (SA 0)), (2, .ref (LA 0)), (3, .int a3), (4, .int a4)]) rfl ?_
                refine jj_goto hJ 7 dX2_nextLevel_87 rfl ?_
                refine jj_lv hJ [0, 2, 3, 4, 5, 6, 7] (lv' := [(6, .int (v6 + 1)), (5, .int v5), (0, .ref (OA 0)), (1, .ref (SA 0)), (2, .ref (LA 0)), (3, .int a3), (4, .int a4)]) rfl ?_
                exact ih (v6 + 1) v5 hF
              · replace hF := iq c16 hF
                refine jj_iload hJ dX2_nextLevel_80 0 rfl ?_
                refine jj_istore hJ dX2_nextLevel_82 (Nat.le_of_ble_eq_true rfl) (lv' := [(5, .int x2), (7, .int x2), (6, .int v6), (0, .ref (OA 0)), (1, .ref (SA 0)), (2, .ref (LA 0)), (3, .int a3), (4, .int a4)]) rfl ?_
                refine jj_iinc hJ dX2_nextLevel_84 2 rfl (v := v6 + 1) (by rw [ic_1]) (Nat.le_of_ble_eq_true rfl) (lv' := [(6, .int (v6 + 1)), (5, .int x2), (7, .int x2), (0, .ref (OA 0)), (1, .ref (SA 0)), (2, .ref (LA 0)), (3, .int a3), (4, .int a4)]) rfl ?_
                refine jj_goto hJ 7 dX2_nextLevel_87 rfl ?_
                refine jj_lv hJ [0, 1, 3, 4, 5, 6, 7] (lv' := [(6, .int (v6 + 1)), (5, .int x2), (0, .ref (OA 0)), (1, .ref (SA 0)), (2, .ref (LA 0)), (3, .int a3), (4, .int a4)]) rfl ?_
                exact ih (v6 + 1) x2 hF
def p_X2_nextLevel (O_n : Nat → Int32) (S_f : Nat → Int32) (S_t : Nat → Int32) (S_w : Nat → Int32) (S_b : Int32) (L_G : Nat → Nat → Int32) (a3 : Int32) (a4 : Int32) : Option (Int32) := q_X2_nextLevel_7 O_n S_f S_t S_w S_b L_G a3 a4 FU 0 ((-4))
end
set_option maxRecDepth 100000 in
theorem c_X2_nextLevel (l : Launch) (D : va_G) (cI cS cII : ClassId) (OA : Nat → Nat) (SA : Nat → Nat) (LA : Nat → Nat) (O_v : Nat → Int32) (O_n : Nat → Int32) (O_s : Int32) (O_a : Int32) (S_k : Nat → Int32) (S_f : Nat → Int32) (S_t : Nat → Int32) (S_w : Nat → Int32) (S_l : Int32) (S_b : Int32) (L_G : Nat → Nat → Int32) (L_l : Int32) (a3 : Int32) (a4 : Int32) {z_r : Int32} (hF : p_X2_nextLevel O_n S_f S_t S_w S_b L_G a3 a4 = some z_r) : MJ l yX2_nextLevel cX2_nextLevel 8 (some .int) Rm_X2_nextLevel D (tysU cI cS cII) [.ref (OA 0), .ref (SA 0), .ref (LA 0), .int a3, .int a4] (W_X2_nextLevel cI cS cII OA SA LA O_v O_n O_s O_a S_k S_f S_t S_w S_l S_b L_G L_l) (some z_r) (W_X2_nextLevel cI cS cII OA SA LA O_v O_n O_s O_a S_k S_f S_t S_w S_l S_b L_G L_l) := by
  refine mj_of (own := RX2) (by decide) rfl (Nat.le_of_ble_eq_true rfl) (fun J hJ => ?_)
  show J (W_X2_nextLevel cI cS cII OA SA LA O_v O_n O_s O_a S_k S_f S_t S_w S_l S_b L_G L_l) 0 [(0, .ref (OA 0)), (1, .ref (SA 0)), (2, .ref (LA 0)), (3, .int a3), (4, .int a4)] []
  unfold p_X2_nextLevel at hF
  refine jj_bipush hJ dX2_nextLevel_0 bp_m4 ?_
  refine jj_istore hJ dX2_nextLevel_2 (Nat.le_of_ble_eq_true rfl) (lv' := [(5, .int ((-4))), (0, .ref (OA 0)), (1, .ref (SA 0)), (2, .ref (LA 0)), (3, .int a3), (4, .int a4)]) rfl ?_
  refine jj_iconst hJ dX2_nextLevel_4 ic_0 ?_
  refine jj_istore hJ dX2_nextLevel_5 (Nat.le_of_ble_eq_true rfl) (lv' := [(6, .int 0), (5, .int ((-4))), (0, .ref (OA 0)), (1, .ref (SA 0)), (2, .ref (LA 0)), (3, .int a3), (4, .int a4)]) rfl ?_
  exact w_X2_nextLevel_7 hJ  FU 0 ((-4)) hF
section
def W_X2_trace (cI cS cII : ClassId) (OA : Nat → Nat) (SA : Nat → Nat) (LA : Nat → Nat) (O_v : Nat → Int32) (O_n : Nat → Int32) (O_s : Int32) (O_a : Int32) (S_k : Nat → Int32) (S_f : Nat → Int32) (S_t : Nat → Int32) (S_w : Nat → Int32) (S_l : Int32) (S_b : Int32) (L_G : Nat → Nat → Int32) (L_l : Int32) : va_W := ([((OA 0), .inr (2, [.ref (OA 1), .ref (OA 2), .int O_s, .int O_a])), ((OA 1), .inl (cI, 10, .inl O_v)), ((OA 2), .inl (cI, 10, .inl O_n)), ((SA 0), .inr (4, [.ref (SA 1), .ref (SA 2), .ref (SA 3), .ref (SA 4), .int S_l, .int S_b])), ((SA 1), .inl (cI, 10, .inl S_k)), ((SA 2), .inl (cI, 16, .inl S_f)), ((SA 3), .inl (cI, 16, .inl S_t)), ((SA 4), .inl (cI, 16, .inl S_w)), ((LA 0), .inr (1, [.ref (LA 1), .int L_l])), ((LA 1), .inl (cII, 10, .inr (.inr (.inr (.inr (fun i => some (LA (i + 2))))))))] ++ rw10 cI (fun i => LA (i + 2)) L_G)
abbrev Rm_X2_trace : Room := { frames := 2, cells := 0, slots := 0, locals := 53 }
variable {l : Launch} {D : va_G} {cI cS cII : ClassId} {OA : Nat → Nat} {SA : Nat → Nat} {LA : Nat → Nat} {A : Nat → Prop} {J : jT}
variable {z_O_v : Nat → Int32} {z_O_n : Nat → Int32} {z_O_s : Int32}
def q_X2_trace_19 (S_f : Nat → Int32) (S_t : Nat → Int32) (S_w : Nat → Int32) (S_l : Int32) (S_b : Int32) (L_G : Nat → Nat → Int32) (a3 : Int32) (a4 : Int32)  : Nat → Int32 → Int32 → (Nat → Int32) → (Nat → Int32) → Int32 → Option ((Nat → Int32) × (Nat → Int32) × Int32)
  | 0, _, _, _, _, _ => none
  | n + 1, v6, v5, O_v, O_n, O_s => if 10 ≤ v6 then (some (O_v, O_n, O_s)) else (if v5 < 0 then (some (O_v, O_n, O_s)) else ((wr O_v 10 O_s v5).bind fun g3 => if v5 = a4 then (q_X2_trace_19 S_f S_t S_w S_l S_b L_G a3 a4 n (v6 + 1) ((-4)) g3 O_n (O_s + 1)) else ((p_X2_nextLevel O_n S_f S_t S_w S_b L_G v5 a4).bind fun r7 => q_X2_trace_19 S_f S_t S_w S_l S_b L_G a3 a4 n (v6 + 1) r7 g3 O_n (O_s + 1))))
set_option maxRecDepth 100000 in
theorem w_X2_trace_19 {O_a : Int32} {S_k : Nat → Int32} {S_f : Nat → Int32} {S_t : Nat → Int32} {S_w : Nat → Int32} {S_l : Int32} {S_b : Int32} {L_G : Nat → Nat → Int32} {L_l : Int32} {a3 : Int32} {a4 : Int32}  (hJ : jJ l cX2_trace 7 D (tysU cI cS cII) RX2 Rm_X2_trace none A none (W_X2_trace cI cS cII OA SA LA z_O_v z_O_n z_O_s O_a S_k S_f S_t S_w S_l S_b L_G L_l) J)  : ∀ (n : Nat) (v6 : Int32) (v5 : Int32) (O_v : Nat → Int32) (O_n : Nat → Int32) (O_s : Int32), q_X2_trace_19 S_f S_t S_w S_l S_b L_G a3 a4 n v6 v5 O_v O_n O_s = some (z_O_v, z_O_n, z_O_s) → J (W_X2_trace cI cS cII OA SA LA O_v O_n O_s O_a S_k S_f S_t S_w S_l S_b L_G L_l) 19 [(6, .int v6), (5, .int v5), (0, .ref (OA 0)), (1, .ref (SA 0)), (2, .ref (LA 0)), (4, .int a4)] [] := by
  intro n
  induction n with
  | zero =>
    intro v6 v5 O_v O_n O_s hF
    exact no_some (show (none : Option ((Nat → Int32) × (Nat → Int32) × Int32)) = some (z_O_v, z_O_n, z_O_s) from hF)
  | succ n ih =>
    intro v6 v5 O_v O_n O_s hF
    rw [q_X2_trace_19.eq_2] at hF
    refine jj_iload hJ dX2_trace_19 0 rfl ?_
    refine jj_bipush hJ dX2_trace_21 bp_10 ?_
    refine jj_icmp_ge hJ 82 dX2_trace_23 rfl (fun c1 => ?_) (fun c1 => ?_)
    · replace hF := ip c1 hF
      cases Option.some.inj hF
      exact jj_vret hJ dX2_trace_82
    · replace hF := iq c1 hF
      refine jj_iload hJ dX2_trace_26 1 rfl ?_
      refine jj_if_lt hJ 82 dX2_trace_28 rfl (fun c2 => ?_) (fun c2 => ?_)
      · replace hF := ip c2 hF
        cases Option.some.inj hF
        exact jj_vret hJ dX2_trace_82
      · replace hF := iq c2 hF
        refine jj_aload_n hJ dX2_trace_31 2 rfl rfl ?_
        refine jj_get hJ lay_X2 dX2_trace_32 0 0 rfl rfl (Nat.le_of_ble_eq_true rfl) kw_73 rfl ?_
        refine jj_aload_n hJ dX2_trace_35 2 rfl rfl ?_
        refine jj_get hJ lay_X2 dX2_trace_36 0 2 rfl rfl (Nat.le_of_ble_eq_true rfl) kw_72 rfl ?_
        refine jj_iload hJ dX2_trace_39 1 rfl ?_
        obtain ⟨g3, h4, hF⟩ := ob hF
        refine jj_iast hJ dX2_trace_41 1 0 rfl rfl h4 (wn := (W_X2_trace cI cS cII OA SA LA g3 O_n O_s O_a S_k S_f S_t S_w S_l S_b L_G L_l)) rfl ?_
        refine jj_aload_n hJ dX2_trace_42 2 rfl rfl ?_
        refine jj_dup hJ dX2_trace_43 rfl ?_
        refine jj_get hJ lay_X2 dX2_trace_44 0 2 rfl rfl (Nat.le_of_ble_eq_true rfl) kw_72 rfl ?_
        refine jj_iconst hJ dX2_trace_47 ic_1 ?_
        refine jj_iadd hJ dX2_trace_48 ?_
        refine jj_puti hJ lay_X2 tyX2 tyX2_ok nmX2 dX2_trace_49 0 2 rfl rfl (Nat.le_of_ble_eq_true rfl) kw_72 rfl rfl (Nat.le_of_ble_eq_true rfl) (wn := (W_X2_trace cI cS cII OA SA LA g3 O_n (O_s + 1) O_a S_k S_f S_t S_w S_l S_b L_G L_l)) rfl ?_
        refine jj_iload hJ dX2_trace_52 1 rfl ?_
        refine jj_iload hJ dX2_trace_54 5 rfl ?_
        refine jj_icmp_ne hJ 64 dX2_trace_56 rfl (fun c5 => ?_) (fun c5 => ?_)
        · replace hF := iq c5 hF
          refine jj_aload_n hJ dX2_trace_64 2 rfl rfl ?_
          refine jj_aload_n hJ dX2_trace_65 3 rfl rfl ?_
          refine jj_aload_n hJ dX2_trace_66 4 rfl rfl ?_
          refine jj_iload hJ dX2_trace_67 1 rfl ?_
          refine jj_iload hJ dX2_trace_69 5 rfl ?_
          obtain ⟨r7, h6, hF⟩ := ob hF
          refine jj_callV0 hJ (c_X2_nextLevel l D cI cS cII OA SA LA g3 O_n (O_s + 1) O_a S_k S_f S_t S_w S_l S_b L_G L_l v5 a4 h6) dX2_trace_71 kw_75 ⟨Nat.le_of_ble_eq_true rfl, Nat.le_of_ble_eq_true rfl, rfl, rfl⟩ kw_74 kw_76 kw_77 0 rfl rfl rfl rfl (Nat.le_of_ble_eq_true rfl) [0, 1, 2, 3, 4, 5, 6, 7, 8, 9, 10, 11, 12, 13, 14, 15, 16, 17, 18, 19] rfl rfl ?_
          refine jj_istore hJ dX2_trace_74 (Nat.le_of_ble_eq_true rfl) (lv' := [(5, .int r7), (6, .int v6), (0, .ref (OA 0)), (1, .ref (SA 0)), (2, .ref (LA 0)), (4, .int a4)]) rfl ?_
          refine jj_iinc hJ dX2_trace_76 1 rfl (v := v6 + 1) (by rw [ic_1]) (Nat.le_of_ble_eq_true rfl) (lv' := [(6, .int (v6 + 1)), (5, .int r7), (0, .ref (OA 0)), (1, .ref (SA 0)), (2, .ref (LA 0)), (4, .int a4)]) rfl ?_
          refine jj_goto hJ 19 dX2_trace_79 rfl ?_
          exact ih (v6 + 1) r7 g3 O_n (O_s + 1) hF
        · replace hF := ip c5 hF
          refine jj_bipush hJ dX2_trace_59 bp_m4 ?_
          refine jj_goto hJ 74 dX2_trace_61 rfl ?_
          refine jj_istore hJ dX2_trace_74 (Nat.le_of_ble_eq_true rfl) (lv' := [(5, .int ((-4))), (6, .int v6), (0, .ref (OA 0)), (1, .ref (SA 0)), (2, .ref (LA 0)), (4, .int a4)]) rfl ?_
          refine jj_iinc hJ dX2_trace_76 1 rfl (v := v6 + 1) (by rw [ic_1]) (Nat.le_of_ble_eq_true rfl) (lv' := [(6, .int (v6 + 1)), (5, .int ((-4))), (0, .ref (OA 0)), (1, .ref (SA 0)), (2, .ref (LA 0)), (4, .int a4)]) rfl ?_
          refine jj_goto hJ 19 dX2_trace_79 rfl ?_
          exact ih (v6 + 1) ((-4)) g3 O_n (O_s + 1) hF
def p_X2_trace (O_v : Nat → Int32) (O_n : Nat → Int32) (O_s : Int32) (S_f : Nat → Int32) (S_t : Nat → Int32) (S_w : Nat → Int32) (S_l : Int32) (S_b : Int32) (L_G : Nat → Nat → Int32) (a3 : Int32) (a4 : Int32) : Option ((Nat → Int32) × (Nat → Int32) × Int32) := (p_X2_countFewest O_n S_f S_t S_w S_l S_b L_G a4).bind fun g2 => q_X2_trace_19 S_f S_t S_w S_l S_b L_G a3 a4 FU 0 a3 O_v g2 0
end
set_option maxRecDepth 100000 in
theorem c_X2_trace (l : Launch) (D : va_G) (cI cS cII : ClassId) (OA : Nat → Nat) (SA : Nat → Nat) (LA : Nat → Nat) (O_v : Nat → Int32) (O_n : Nat → Int32) (O_s : Int32) (O_a : Int32) (S_k : Nat → Int32) (S_f : Nat → Int32) (S_t : Nat → Int32) (S_w : Nat → Int32) (S_l : Int32) (S_b : Int32) (L_G : Nat → Nat → Int32) (L_l : Int32) (a3 : Int32) (a4 : Int32) {z_O_v : Nat → Int32} {z_O_n : Nat → Int32} {z_O_s : Int32} (hF : p_X2_trace O_v O_n O_s S_f S_t S_w S_l S_b L_G a3 a4 = some (z_O_v, z_O_n, z_O_s)) : MJ l yX2_trace cX2_trace 7 none Rm_X2_trace D (tysU cI cS cII) [.ref (OA 0), .ref (SA 0), .ref (LA 0), .int a3, .int a4] (W_X2_trace cI cS cII OA SA LA O_v O_n O_s O_a S_k S_f S_t S_w S_l S_b L_G L_l) none (W_X2_trace cI cS cII OA SA LA z_O_v z_O_n z_O_s O_a S_k S_f S_t S_w S_l S_b L_G L_l) := by
  refine mj_of (own := RX2) (by decide) rfl (Nat.le_of_ble_eq_true rfl) (fun J hJ => ?_)
  show J (W_X2_trace cI cS cII OA SA LA O_v O_n O_s O_a S_k S_f S_t S_w S_l S_b L_G L_l) 0 [(0, .ref (OA 0)), (1, .ref (SA 0)), (2, .ref (LA 0)), (3, .int a3), (4, .int a4)] []
  unfold p_X2_trace at hF
  refine jj_aload_n hJ dX2_trace_0 0 rfl rfl ?_
  refine jj_aload_n hJ dX2_trace_1 1 rfl rfl ?_
  refine jj_aload_n hJ dX2_trace_2 2 rfl rfl ?_
  refine jj_iload hJ dX2_trace_3 4 rfl ?_
  obtain ⟨g2, h1, hF⟩ := ob hF
  refine jj_callV hJ (c_X2_countFewest l D cI cS cII OA SA LA O_v O_n O_s O_a S_k S_f S_t S_w S_l S_b L_G L_l a4 h1) dX2_trace_5 kw_69 ⟨Nat.le_of_ble_eq_true rfl, Nat.le_of_ble_eq_true rfl, rfl, rfl⟩ kw_68 kw_70 kw_71 0 rfl rfl rfl rfl (Nat.le_of_ble_eq_true rfl) [0, 1, 2, 3, 4, 5, 6, 7, 8, 9, 10, 11, 12, 13, 14, 15, 16, 17, 18, 19] rfl rfl (wn := (W_X2_trace cI cS cII OA SA LA O_v g2 O_s O_a S_k S_f S_t S_w S_l S_b L_G L_l)) (jNew_sel rfl [some 0, some 1, some 2, some 3, some 4, some 5, some 6, some 7, some 8, some 9, some 10, some 11, some 12, some 13, some 14, some 15, some 16, some 17, some 18, some 19] (by decide +kernel) rfl) ?_
  refine jj_aload_n hJ dX2_trace_8 0 rfl rfl ?_
  refine jj_iconst hJ dX2_trace_9 ic_0 ?_
  refine jj_puti hJ lay_X2 tyX2 tyX2_ok nmX2 dX2_trace_10 0 2 rfl rfl (Nat.le_of_ble_eq_true rfl) kw_72 rfl rfl (Nat.le_of_ble_eq_true rfl) (wn := (W_X2_trace cI cS cII OA SA LA O_v g2 0 O_a S_k S_f S_t S_w S_l S_b L_G L_l)) rfl ?_
  refine jj_iload_n hJ dX2_trace_13 3 rfl rfl ?_
  refine jj_istore hJ dX2_trace_14 (Nat.le_of_ble_eq_true rfl) (lv' := [(5, .int a3), (0, .ref (OA 0)), (1, .ref (SA 0)), (2, .ref (LA 0)), (3, .int a3), (4, .int a4)]) rfl ?_
  refine jj_iconst hJ dX2_trace_16 ic_0 ?_
  refine jj_istore hJ dX2_trace_17 (Nat.le_of_ble_eq_true rfl) (lv' := [(6, .int 0), (5, .int a3), (0, .ref (OA 0)), (1, .ref (SA 0)), (2, .ref (LA 0)), (3, .int a3), (4, .int a4)]) rfl ?_
  refine jj_lv hJ [0, 1, 2, 3, 4, 6] (lv' := [(6, .int 0), (5, .int a3), (0, .ref (OA 0)), (1, .ref (SA 0)), (2, .ref (LA 0)), (4, .int a4)]) rfl ?_
  exact w_X2_trace_19 hJ  FU 0 a3 O_v g2 0 hF
