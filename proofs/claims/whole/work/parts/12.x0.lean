theorem kw_107 : Cond.fieldLink RX0 9 (TX0 0).1 (TX0 0).2.1 (TX0 0).2.2.1 ∈ lw_tbl := tb1 (i := 109) rfl
theorem kw_108 : Cond.fieldLink RX0 15 (TX0 1).1 (TX0 1).2.1 (TX0 1).2.2.1 ∈ lw_tbl := tb1 (i := 110) rfl
theorem kw_109 : Cond.fieldLink RX0 25 (TX0 3).1 (TX0 3).2.1 (TX0 3).2.2.1 ∈ lw_tbl := tb1 (i := 112) rfl
theorem kw_110 : ((RX0, 43, (TX4 5).1, (TX4 5).2.1, (TX4 5).2.2.1, "UniverseLevels") : String × Nat × String × String × String × String) ∈ nestF := List.mem_of_getElem? (i := 16) rfl
theorem kw_111 : ((RX0, 46, (TX1 0).1, (TX1 0).2.1, (TX1 0).2.2.1, "UniverseLevels") : String × Nat × String × String × String × String) ∈ nestF := List.mem_of_getElem? (i := 18) rfl
theorem kw_112 : ((RX0, 52, (TX4 1).1, (TX4 1).2.1, (TX4 1).2.2.1, "UniverseLevels") : String × Nat × String × String × String × String) ∈ nestF := List.mem_of_getElem? (i := 4) rfl
theorem kw_113 : ((RX0, 55, (TX4 2).1, (TX4 2).2.1, (TX4 2).2.2.1, "UniverseLevels") : String × Nat × String × String × String × String) ∈ nestF := List.mem_of_getElem? (i := 7) rfl
theorem kw_114 : Cond.constant RX0 58 (-1000000) ∈ lw_tbl := tb3 (i := 16) rfl
theorem kw_115 : ((RX0, 59, (TX4 3).1, (TX4 3).2.1, (TX4 3).2.2.1, "UniverseLevels") : String × Nat × String × String × String × String) ∈ nestF := List.mem_of_getElem? (i := 9) rfl
theorem kw_116 : Cond.methodLink RX0 62 yX0_numberOf ∈ lw_tbl := tb3 (i := 21) rfl
theorem kw_117 : cwOk yX0_numberOf cX0_numberOf 2 (some .int) 1 := ⟨tb3 (i := 24) rfl, tb1 (i := 5) rfl, by decide, by decide, by decide +kernel⟩
theorem kw_118 : Cond.instanceMethod yX0_numberOf ∈ lw_tbl := tb3 (i := 23) rfl
theorem kw_119 : Cond.selects RX0 yX0_numberOf yX0_numberOf ∈ lw_tbl := tsel (i := 37) (q := (⟨"UniverseLevels$Against", "numberOf", "(I)I"⟩, 4)) rfl
theorem ic_m1 : Int32.ofInt (-1) = (-1 : Int32) := by decide
theorem kw_120 : Cond.methodLink RX0 21 yX0_gather ∈ lw_tbl := tb3 (i := 12) rfl
theorem kw_121 : cwOk yX0_gather cX0_gather 9 none 5 := ⟨tb3 (i := 15) rfl, tb1 (i := 5) rfl, by decide, by decide, by decide +kernel⟩
theorem kw_122 : Cond.instanceMethod yX0_gather ∈ lw_tbl := tb3 (i := 14) rfl
theorem kw_123 : Cond.selects RX0 yX0_gather yX0_gather ∈ lw_tbl := tsel (i := 35) (q := (⟨"UniverseLevels$Against", "gather", "(LUniverseLevels$State;LUniverseLevels$Lengths;III)V"⟩, 4)) rfl
theorem sp_560 : (Int16.ofInt (560)).toInt32 = (560 : Int32) := by decide
theorem kw_124 : Cond.methodLink RX0 29 yX0_pickedBits ∈ lw_tbl := tb3 (i := 17) rfl
theorem kw_125 : cwOk yX0_pickedBits cX0_pickedBits 4 (some .int) 1 := ⟨tb3 (i := 20) rfl, tb1 (i := 5) rfl, by decide, by decide, by decide +kernel⟩
theorem kw_126 : Cond.instanceMethod yX0_pickedBits ∈ lw_tbl := tb3 (i := 19) rfl
theorem kw_127 : Cond.selects RX0 yX0_pickedBits yX0_pickedBits ∈ lw_tbl := tsel (i := 36) (q := (⟨"UniverseLevels$Against", "pickedBits", "(I)I"⟩, 4)) rfl
theorem kw_128 : Cond.fieldLink RX0 18 (TX0 2).1 (TX0 2).2.1 (TX0 2).2.2.1 ∈ lw_tbl := tb1 (i := 111) rfl
theorem kw_129 : ((RX0, 33, yX4_lengthsFrom, "UniverseLevels") : String × Nat × MethodName × String) ∈ nestM := List.mem_of_getElem? (i := 24) rfl
theorem kw_130 : Cond.methodLink RX0 39 yX0_nextChoice ∈ lw_tbl := tb3 (i := 26) rfl
theorem kw_131 : cwOk yX0_nextChoice cX0_nextChoice 4 (some .boolean) 1 := ⟨tb3 (i := 29) rfl, tb1 (i := 5) rfl, by decide, by decide, by decide +kernel⟩
theorem kw_132 : Cond.instanceMethod yX0_nextChoice ∈ lw_tbl := tb3 (i := 28) rfl
theorem kw_133 : Cond.selects RX0 yX0_nextChoice yX0_nextChoice ∈ lw_tbl := tsel (i := 38) (q := (⟨"UniverseLevels$Against", "nextChoice", "(I)Z"⟩, 4)) rfl
section
def W_X0_numberOf (cI cS cII : ClassId) (AA : Nat → Nat) (A_i : Nat → Int32) (A_p : Nat → Int32) (A_t : Nat → Int32) (A_m : Int32) : va_W := [((AA 0), .inr (0, [.ref (AA 1), .ref (AA 2), .ref (AA 3), .int A_m])), ((AA 1), .inl (cI, 16, .inl A_i)), ((AA 2), .inl (cI, 3, .inl A_p)), ((AA 3), .inl (cI, 10, .inl A_t))]
abbrev Rm_X0_numberOf : Room := { frames := 0, cells := 0, slots := 0, locals := 0 }
variable {l : Launch} {D : va_G} {cI cS cII : ClassId} {AA : Nat → Nat} {A : Nat → Prop} {J : jT}
variable {z_r : Int32}
def p_X0_numberOf (A_i : Nat → Int32) (A_p : Nat → Int32) (a1 : Int32) : Option (Int32) := (rd A_p 3 a1).bind fun x1 => (rd A_i 16 x1).bind fun x3 => some x3
end
set_option maxRecDepth 100000 in
theorem c_X0_numberOf (l : Launch) (D : va_G) (cI cS cII : ClassId) (AA : Nat → Nat) (A_i : Nat → Int32) (A_p : Nat → Int32) (A_t : Nat → Int32) (A_m : Int32) (a1 : Int32) {z_r : Int32} (hF : p_X0_numberOf A_i A_p a1 = some z_r) : MJ l yX0_numberOf cX0_numberOf 2 (some .int) Rm_X0_numberOf D (tysU cI cS cII) [.ref (AA 0), .int a1] (W_X0_numberOf cI cS cII AA A_i A_p A_t A_m) (some z_r) (W_X0_numberOf cI cS cII AA A_i A_p A_t A_m) := by
  refine mj_of (own := RX0) (by decide) rfl (Nat.le_of_ble_eq_true rfl) (fun J hJ => ?_)
  show J (W_X0_numberOf cI cS cII AA A_i A_p A_t A_m) 0 [(0, .ref (AA 0)), (1, .int a1)] []
  unfold p_X0_numberOf at hF
  refine jj_aload_n hJ dX0_numberOf_0 0 rfl rfl ?_
  refine jj_get hJ lay_X0 dX0_numberOf_1 0 0 rfl rfl (Nat.le_of_ble_eq_true rfl) kw_107 rfl ?_
  refine jj_aload_n hJ dX0_numberOf_4 0 rfl rfl ?_
  refine jj_get hJ lay_X0 dX0_numberOf_5 0 1 rfl rfl (Nat.le_of_ble_eq_true rfl) kw_108 rfl ?_
  refine jj_iload_n hJ dX0_numberOf_8 1 rfl rfl ?_
  obtain ⟨x1, h2, hF⟩ := ob hF
  refine jj_iald hJ dX0_numberOf_9 2 0 rfl rfl h2 ?_
  obtain ⟨x3, h4, hF⟩ := ob hF
  refine jj_iald hJ dX0_numberOf_10 1 0 rfl rfl h4 ?_
  cases Option.some.inj hF
  exact jj_iret hJ dX0_numberOf_11
section
def W_X0_gather (cI cS cII : ClassId) (AA : Nat → Nat) (SA : Nat → Nat) (LA : Nat → Nat) (A_i : Nat → Int32) (A_p : Nat → Int32) (A_t : Nat → Int32) (A_m : Int32) (S_k : Nat → Int32) (S_f : Nat → Int32) (S_t : Nat → Int32) (S_w : Nat → Int32) (S_l : Int32) (S_b : Int32) (L_G : Nat → Nat → Int32) (L_l : Int32) : va_W := ([((AA 0), .inr (0, [.ref (AA 1), .ref (AA 2), .ref (AA 3), .int A_m])), ((AA 1), .inl (cI, 16, .inl A_i)), ((AA 2), .inl (cI, 3, .inl A_p)), ((AA 3), .inl (cI, 10, .inl A_t)), ((SA 0), .inr (4, [.ref (SA 1), .ref (SA 2), .ref (SA 3), .ref (SA 4), .int S_l, .int S_b])), ((SA 1), .inl (cI, 10, .inl S_k)), ((SA 2), .inl (cI, 16, .inl S_f)), ((SA 3), .inl (cI, 16, .inl S_t)), ((SA 4), .inl (cI, 16, .inl S_w)), ((LA 0), .inr (1, [.ref (LA 1), .int L_l])), ((LA 1), .inl (cII, 10, .inr (.inr (.inr (.inr (fun i => some (LA (i + 2))))))))] ++ rw10 cI (fun i => LA (i + 2)) L_G)
abbrev Rm_X0_gather : Room := { frames := 0, cells := 0, slots := 0, locals := 0 }
variable {l : Launch} {D : va_G} {cI cS cII : ClassId} {AA : Nat → Nat} {SA : Nat → Nat} {LA : Nat → Nat} {A : Nat → Prop} {J : jT}
variable {z_A_i : Nat → Int32} {z_A_m : Int32}
def q_X0_gather_8 (S_f : Nat → Int32) (S_t : Nat → Int32) (S_w : Nat → Int32) (S_b : Int32) (L_G : Nat → Nat → Int32) (a3 : Int32) (a4 : Int32) (a5 : Int32)  : Nat → Int32 → (Nat → Int32) → Int32 → Option ((Nat → Int32) × Int32)
  | 0, _, _, _ => none
  | n + 1, v6, A_i, A_m => if S_b ≤ v6 then (some (A_i, A_m)) else ((ix 10 a5).bind fun j2 => (rd S_f 16 v6).bind fun x4 => (rd (L_G j2) 10 x4).bind fun x6 => (rd S_t 16 v6).bind fun x8 => (ix 10 x8).bind fun j10 => (rd (L_G j10) 10 a3).bind fun x12 => if x6 = ((-1000000)) then (q_X0_gather_8 S_f S_t S_w S_b L_G a3 a4 a5 n (v6 + 1) A_i A_m) else (if x12 = ((-1000000)) then (q_X0_gather_8 S_f S_t S_w S_b L_G a3 a4 a5 n (v6 + 1) A_i A_m) else ((rd S_w 16 v6).bind fun x16 => if (((x6 + x16) + x12) + a4) ≤ 0 then (q_X0_gather_8 S_f S_t S_w S_b L_G a3 a4 a5 n (v6 + 1) A_i A_m) else ((wr A_i 16 A_m v6).bind fun g19 => q_X0_gather_8 S_f S_t S_w S_b L_G a3 a4 a5 n (v6 + 1) g19 (A_m + 1)))))
set_option maxRecDepth 100000 in
theorem w_X0_gather_8 {A_p : Nat → Int32} {A_t : Nat → Int32} {S_k : Nat → Int32} {S_f : Nat → Int32} {S_t : Nat → Int32} {S_w : Nat → Int32} {S_l : Int32} {S_b : Int32} {L_G : Nat → Nat → Int32} {L_l : Int32} {a3 : Int32} {a4 : Int32} {a5 : Int32}  (hJ : jJ l cX0_gather 9 D (tysU cI cS cII) RX0 Rm_X0_gather none A none (W_X0_gather cI cS cII AA SA LA z_A_i A_p A_t z_A_m S_k S_f S_t S_w S_l S_b L_G L_l) J)  : ∀ (n : Nat) (v6 : Int32) (A_i : Nat → Int32) (A_m : Int32), q_X0_gather_8 S_f S_t S_w S_b L_G a3 a4 a5 n v6 A_i A_m = some (z_A_i, z_A_m) → J (W_X0_gather cI cS cII AA SA LA A_i A_p A_t A_m S_k S_f S_t S_w S_l S_b L_G L_l) 8 [(6, .int v6), (0, .ref (AA 0)), (1, .ref (SA 0)), (2, .ref (LA 0)), (3, .int a3), (4, .int a4), (5, .int a5)] [] := by
  intro n
  induction n with
  | zero =>
    intro v6 A_i A_m hF
    exact no_some (show (none : Option ((Nat → Int32) × Int32)) = some (z_A_i, z_A_m) from hF)
  | succ n ih =>
    intro v6 A_i A_m hF
    rw [q_X0_gather_8.eq_2] at hF
    refine jj_iload hJ dX0_gather_8 0 rfl ?_
    refine jj_aload_n hJ dX0_gather_10 2 rfl rfl ?_
    refine jj_getN hJ lay_X4 dX0_gather_11 4 5 rfl rfl (Nat.le_of_ble_eq_true rfl) kw_110 rfl ?_
    refine jj_icmp_ge hJ 110 dX0_gather_14 rfl (fun c1 => ?_) (fun c1 => ?_)
    · replace hF := ip c1 hF
      cases Option.some.inj hF
      exact jj_vret hJ dX0_gather_110
    · replace hF := iq c1 hF
      refine jj_aload_n hJ dX0_gather_17 3 rfl rfl ?_
      refine jj_getN hJ lay_X1 dX0_gather_18 9 0 rfl rfl (Nat.le_of_ble_eq_true rfl) kw_111 rfl ?_
      refine jj_iload hJ dX0_gather_21 6 rfl ?_
      obtain ⟨j2, h3, hF⟩ := ob hF
      refine jj_aald hJ dX0_gather_23 10 2 rfl rfl rfl (ix_some h3).1 (congrArg (fun i => some (LA (i + 2))) (ix_some h3).2.1) ?_
      refine jj_aload_n hJ dX0_gather_24 2 rfl rfl ?_
      refine jj_getN hJ lay_X4 dX0_gather_25 4 1 rfl rfl (Nat.le_of_ble_eq_true rfl) kw_112 rfl ?_
      refine jj_iload hJ dX0_gather_28 0 rfl ?_
      obtain ⟨x4, h5, hF⟩ := ob hF
      refine jj_iald hJ dX0_gather_30 6 0 rfl rfl h5 ?_
      obtain ⟨x6, h7, hF⟩ := ob hF
      refine jj_iald hJ dX0_gather_31 (11 + j2) 0 (rw10_get _ (ix_some h3).2.2) rfl h7 ?_
      refine jj_istore hJ dX0_gather_32 (Nat.le_of_ble_eq_true rfl) (lv' := [(7, .int x6), (6, .int v6), (0, .ref (AA 0)), (1, .ref (SA 0)), (2, .ref (LA 0)), (3, .int a3), (4, .int a4), (5, .int a5)]) rfl ?_
      refine jj_aload_n hJ dX0_gather_34 4 rfl rfl ?_
      refine jj_getN hJ lay_X1 dX0_gather_35 9 0 rfl rfl (Nat.le_of_ble_eq_true rfl) kw_111 rfl ?_
      refine jj_aload_n hJ dX0_gather_38 3 rfl rfl ?_
      refine jj_getN hJ lay_X4 dX0_gather_39 4 2 rfl rfl (Nat.le_of_ble_eq_true rfl) kw_113 rfl ?_
      refine jj_iload hJ dX0_gather_42 1 rfl ?_
      obtain ⟨x8, h9, hF⟩ := ob hF
      refine jj_iald hJ dX0_gather_44 7 0 rfl rfl h9 ?_
      obtain ⟨j10, h11, hF⟩ := ob hF
      refine jj_aald hJ dX0_gather_45 10 2 rfl rfl rfl (ix_some h11).1 (congrArg (fun i => some (LA (i + 2))) (ix_some h11).2.1) ?_
      refine jj_iload_n hJ dX0_gather_46 5 rfl rfl ?_
      obtain ⟨x12, h13, hF⟩ := ob hF
      refine jj_iald hJ dX0_gather_47 (11 + j10) 0 (rw10_get _ (ix_some h11).2.2) rfl h13 ?_
      refine jj_istore hJ dX0_gather_48 (Nat.le_of_ble_eq_true rfl) (lv' := [(8, .int x12), (7, .int x6), (6, .int v6), (0, .ref (AA 0)), (1, .ref (SA 0)), (2, .ref (LA 0)), (3, .int a3), (4, .int a4), (5, .int a5)]) rfl ?_
      refine jj_iload hJ dX0_gather_50 1 rfl ?_
      refine jj_ldc hJ dX0_gather_52 kw_114 ?_
      refine jj_icmp_eq hJ 104 dX0_gather_54 rfl (fun c14 => ?_) (fun c14 => ?_)
      · replace hF := ip c14 hF
        refine jj_iinc hJ dX0_gather_104 2 rfl (v := v6 + 1) (by rw [ic_1]) (Nat.le_of_ble_eq_true rfl) (lv' := [(6, .int (v6 + 1)), (8, .int x12), (7, .int x6), (0, .ref (AA 0)), (1, .ref (SA 0)), (2, .ref (LA 0)), (3, .int a3), (4, .int a4), (5, .int a5)]) rfl ?_
        refine jj_goto hJ 8 dX0_gather_107 rfl ?_
        refine jj_lv hJ [0, 3, 4, 5, 6, 7, 8] (lv' := [(6, .int (v6 + 1)), (0, .ref (AA 0)), (1, .ref (SA 0)), (2, .ref (LA 0)), (3, .int a3), (4, .int a4), (5, .int a5)]) rfl ?_
        exact ih (v6 + 1) A_i A_m hF
      · replace hF := iq c14 hF
        refine jj_iload hJ dX0_gather_57 0 rfl ?_
        refine jj_ldc hJ dX0_gather_59 kw_114 ?_
        refine jj_icmp_eq hJ 104 dX0_gather_61 rfl (fun c15 => ?_) (fun c15 => ?_)
        · replace hF := ip c15 hF
          refine jj_iinc hJ dX0_gather_104 2 rfl (v := v6 + 1) (by rw [ic_1]) (Nat.le_of_ble_eq_true rfl) (lv' := [(6, .int (v6 + 1)), (8, .int x12), (7, .int x6), (0, .ref (AA 0)), (1, .ref (SA 0)), (2, .ref (LA 0)), (3, .int a3), (4, .int a4), (5, .int a5)]) rfl ?_
          refine jj_goto hJ 8 dX0_gather_107 rfl ?_
          refine jj_lv hJ [0, 3, 4, 5, 6, 7, 8] (lv' := [(6, .int (v6 + 1)), (0, .ref (AA 0)), (1, .ref (SA 0)), (2, .ref (LA 0)), (3, .int a3), (4, .int a4), (5, .int a5)]) rfl ?_
          exact ih (v6 + 1) A_i A_m hF
        · replace hF := iq c15 hF
          refine jj_iload hJ dX0_gather_64 1 rfl ?_
          refine jj_aload_n hJ dX0_gather_66 4 rfl rfl ?_
          refine jj_getN hJ lay_X4 dX0_gather_67 4 3 rfl rfl (Nat.le_of_ble_eq_true rfl) kw_115 rfl ?_
          refine jj_iload hJ dX0_gather_70 2 rfl ?_
          obtain ⟨x16, h17, hF⟩ := ob hF
          refine jj_iald hJ dX0_gather_72 8 0 rfl rfl h17 ?_
          refine jj_iadd hJ dX0_gather_73 ?_
          refine jj_iload hJ dX0_gather_74 0 rfl ?_
          refine jj_iadd hJ dX0_gather_76 ?_
          refine jj_iload hJ dX0_gather_77 7 rfl ?_
          refine jj_iadd hJ dX0_gather_79 ?_
          refine jj_if_le hJ 104 dX0_gather_80 rfl (fun c18 => ?_) (fun c18 => ?_)
          · replace hF := ip c18 hF
            refine jj_iinc hJ dX0_gather_104 2 rfl (v := v6 + 1) (by rw [ic_1]) (Nat.le_of_ble_eq_true rfl) (lv' := [(6, .int (v6 + 1)), (8, .int x12), (7, .int x6), (0, .ref (AA 0)), (1, .ref (SA 0)), (2, .ref (LA 0)), (3, .int a3), (4, .int a4), (5, .int a5)]) rfl ?_
            refine jj_goto hJ 8 dX0_gather_107 rfl ?_
            refine jj_lv hJ [0, 3, 4, 5, 6, 7, 8] (lv' := [(6, .int (v6 + 1)), (0, .ref (AA 0)), (1, .ref (SA 0)), (2, .ref (LA 0)), (3, .int a3), (4, .int a4), (5, .int a5)]) rfl ?_
            exact ih (v6 + 1) A_i A_m hF
          · replace hF := iq c18 hF
            refine jj_aload_n hJ dX0_gather_83 3 rfl rfl ?_
            refine jj_get hJ lay_X0 dX0_gather_84 0 0 rfl rfl (Nat.le_of_ble_eq_true rfl) kw_107 rfl ?_
            refine jj_aload_n hJ dX0_gather_87 3 rfl rfl ?_
            refine jj_get hJ lay_X0 dX0_gather_88 0 3 rfl rfl (Nat.le_of_ble_eq_true rfl) kw_109 rfl ?_
            refine jj_iload hJ dX0_gather_91 2 rfl ?_
            obtain ⟨g19, h20, hF⟩ := ob hF
            refine jj_iast hJ dX0_gather_93 1 0 rfl rfl h20 (wn := (W_X0_gather cI cS cII AA SA LA g19 A_p A_t A_m S_k S_f S_t S_w S_l S_b L_G L_l)) rfl ?_
            refine jj_aload_n hJ dX0_gather_94 3 rfl rfl ?_
            refine jj_dup hJ dX0_gather_95 rfl ?_
            refine jj_get hJ lay_X0 dX0_gather_96 0 3 rfl rfl (Nat.le_of_ble_eq_true rfl) kw_109 rfl ?_
            refine jj_iconst hJ dX0_gather_99 ic_1 ?_
            refine jj_iadd hJ dX0_gather_100 ?_
            refine jj_puti hJ lay_X0 tyX0 tyX0_ok nmX0 dX0_gather_101 0 3 rfl rfl (Nat.le_of_ble_eq_true rfl) kw_109 rfl rfl (Nat.le_of_ble_eq_true rfl) (wn := (W_X0_gather cI cS cII AA SA LA g19 A_p A_t (A_m + 1) S_k S_f S_t S_w S_l S_b L_G L_l)) rfl ?_
            refine jj_iinc hJ dX0_gather_104 2 rfl (v := v6 + 1) (by rw [ic_1]) (Nat.le_of_ble_eq_true rfl) (lv' := [(6, .int (v6 + 1)), (8, .int x12), (7, .int x6), (0, .ref (AA 0)), (1, .ref (SA 0)), (2, .ref (LA 0)), (3, .int a3), (4, .int a4), (5, .int a5)]) rfl ?_
            refine jj_goto hJ 8 dX0_gather_107 rfl ?_
            refine jj_lv hJ [0, 3, 4, 5, 6, 7, 8] (lv' := [(6, .int (v6 + 1)), (0, .ref (AA 0)), (1, .ref (SA 0)), (2, .ref (LA 0)), (3, .int a3), (4, .int a4), (5, .int a5)]) rfl ?_
            exact ih (v6 + 1) g19 (A_m + 1) hF
def p_X0_gather (A_i : Nat → Int32) (A_m : Int32) (S_f : Nat → Int32) (S_t : Nat → Int32) (S_w : Nat → Int32) (S_b : Int32) (L_G : Nat → Nat → Int32) (a3 : Int32) (a4 : Int32) (a5 : Int32) : Option ((Nat → Int32) × Int32) := q_X0_gather_8 S_f S_t S_w S_b L_G a3 a4 a5 FU 0 A_i 0
end
set_option maxRecDepth 100000 in
theorem c_X0_gather (l : Launch) (D : va_G) (cI cS cII : ClassId) (AA : Nat → Nat) (SA : Nat → Nat) (LA : Nat → Nat) (A_i : Nat → Int32) (A_p : Nat → Int32) (A_t : Nat → Int32) (A_m : Int32) (S_k : Nat → Int32) (S_f : Nat → Int32) (S_t : Nat → Int32) (S_w : Nat → Int32) (S_l : Int32) (S_b : Int32) (L_G : Nat → Nat → Int32) (L_l : Int32) (a3 : Int32) (a4 : Int32) (a5 : Int32) {z_A_i : Nat → Int32} {z_A_m : Int32} (hF : p_X0_gather A_i A_m S_f S_t S_w S_b L_G a3 a4 a5 = some (z_A_i, z_A_m)) : MJ l yX0_gather cX0_gather 9 none Rm_X0_gather D (tysU cI cS cII) [.ref (AA 0), .ref (SA 0), .ref (LA 0), .int a3, .int a4, .int a5] (W_X0_gather cI cS cII AA SA LA A_i A_p A_t A_m S_k S_f S_t S_w S_l S_b L_G L_l) none (W_X0_gather cI cS cII AA SA LA z_A_i A_p A_t z_A_m S_k S_f S_t S_w S_l S_b L_G L_l) := by
  refine mj_of (own := RX0) (by decide) rfl (Nat.le_of_ble_eq_true rfl) (fun J hJ => ?_)
  show J (W_X0_gather cI cS cII AA SA LA A_i A_p A_t A_m S_k S_f S_t S_w S_l S_b L_G L_l) 0 [(0, .ref (AA 0)), (1, .ref (SA 0)), (2, .ref (LA 0)), (3, .int a3), (4, .int a4), (5, .int a5)] []
  unfold p_X0_gather at hF
  refine jj_aload_n hJ dX0_gather_0 0 rfl rfl ?_
  refine jj_iconst hJ dX0_gather_1 ic_0 ?_
  refine jj_puti hJ lay_X0 tyX0 tyX0_ok nmX0 dX0_gather_2 0 3 rfl rfl (Nat.le_of_ble_eq_true rfl) kw_109 rfl rfl (Nat.le_of_ble_eq_true rfl) (wn := (W_X0_gather cI cS cII AA SA LA A_i A_p A_t 0 S_k S_f S_t S_w S_l S_b L_G L_l)) rfl ?_
  refine jj_iconst hJ dX0_gather_5 ic_0 ?_
  refine jj_istore hJ dX0_gather_6 (Nat.le_of_ble_eq_true rfl) (lv' := [(6, .int 0), (0, .ref (AA 0)), (1, .ref (SA 0)), (2, .ref (LA 0)), (3, .int a3), (4, .int a4), (5, .int a5)]) rfl ?_
  exact w_X0_gather_8 hJ  FU 0 A_i 0 hF
section
def W_X0_pickedBits (cI cS cII : ClassId) (AA : Nat → Nat) (A_i : Nat → Int32) (A_p : Nat → Int32) (A_t : Nat → Int32) (A_m : Int32) : va_W := [((AA 0), .inr (0, [.ref (AA 1), .ref (AA 2), .ref (AA 3), .int A_m])), ((AA 1), .inl (cI, 16, .inl A_i)), ((AA 2), .inl (cI, 3, .inl A_p)), ((AA 3), .inl (cI, 10, .inl A_t))]
abbrev Rm_X0_pickedBits : Room := { frames := 1, cells := 0, slots := 0, locals := 21 }
variable {l : Launch} {D : va_G} {cI cS cII : ClassId} {AA : Nat → Nat} {A : Nat → Prop} {J : jT}
variable {z_r : Int32}
def q_X0_pickedBits_4 (A_i : Nat → Int32) (A_p : Nat → Int32) (a1 : Int32)  : Nat → Int32 → Int32 → Option (Int32)
  | 0, _, _ => none
  | n + 1, v3, v2 => if a1 ≤ v3 then (some v2) else ((p_X0_numberOf A_i A_p v3).bind fun r3 => q_X0_pickedBits_4 A_i A_p a1 n (v3 + 1) (v2 ||| (1 <<< (r3 &&& 31))))
set_option maxRecDepth 100000 in
theorem w_X0_pickedBits_4 {A_i : Nat → Int32} {A_p : Nat → Int32} {A_t : Nat → Int32} {A_m : Int32} {a1 : Int32}  (hJ : jJ l cX0_pickedBits 4 D (tysU cI cS cII) RX0 Rm_X0_pickedBits (some .int) A (some z_r) (W_X0_pickedBits cI cS cII AA A_i A_p A_t A_m) J)  : ∀ (n : Nat) (v3 : Int32) (v2 : Int32), q_X0_pickedBits_4 A_i A_p a1 n v3 v2 = some z_r → J (W_X0_pickedBits cI cS cII AA A_i A_p A_t A_m) 4 [(3, .int v3), (2, .int v2), (0, .ref (AA 0)), (1, .int a1)] [] := by
  intro n
  induction n with
  | zero =>
    intro v3 v2 hF
    exact no_some (show (none : Option (Int32)) = some z_r from hF)
  | succ n ih =>
    intro v3 v2 hF
    rw [q_X0_pickedBits_4.eq_2] at hF
    refine jj_iload_n hJ dX0_pickedBits_4 0 rfl rfl ?_
    refine jj_iload_n hJ dX0_pickedBits_5 3 rfl rfl ?_
    refine jj_icmp_ge hJ 25 dX0_pickedBits_6 rfl (fun c1 => ?_) (fun c1 => ?_)
    · replace hF := ip c1 hF
      refine jj_iload_n hJ dX0_pickedBits_25 1 rfl rfl ?_
      cases Option.some.inj hF
      exact jj_iret hJ dX0_pickedBits_26
    · replace hF := iq c1 hF
      refine jj_iload_n hJ dX0_pickedBits_9 1 rfl rfl ?_
      refine jj_iconst hJ dX0_pickedBits_10 ic_1 ?_
      refine jj_aload_n hJ dX0_pickedBits_11 2 rfl rfl ?_
      refine jj_iload_n hJ dX0_pickedBits_12 0 rfl rfl ?_
      obtain ⟨r3, h2, hF⟩ := ob hF
      refine jj_callV0 hJ (c_X0_numberOf l D cI cS cII AA A_i A_p A_t A_m v3 h2) dX0_pickedBits_13 kw_117 ⟨Nat.le_of_ble_eq_true rfl, Nat.le_of_ble_eq_true rfl, rfl, rfl⟩ kw_116 kw_118 kw_119 0 rfl rfl rfl rfl (Nat.le_of_ble_eq_true rfl) [0, 1, 2, 3] rfl rfl ?_
      refine jj_ishl hJ dX0_pickedBits_16 ?_
      refine jj_ior hJ dX0_pickedBits_17 ?_
      refine jj_istore_n hJ dX0_pickedBits_18 rfl (Nat.le_of_ble_eq_true rfl) (lv' := [(2, .int (v2 ||| (1 <<< (r3 &&& 31)))), (3, .int v3), (0, .ref (AA 0)), (1, .int a1)]) rfl ?_
      refine jj_iinc hJ dX0_pickedBits_19 1 rfl (v := v3 + 1) (by rw [ic_1]) (Nat.le_of_ble_eq_true rfl) (lv' := [(3, .int (v3 + 1)), (2, .int (v2 ||| (1 <<< (r3 &&& 31)))), (0, .ref (AA 0)), (1, .int a1)]) rfl ?_
      refine jj_goto hJ 4 dX0_pickedBits_22 rfl ?_
      exact ih (v3 + 1) (v2 ||| (1 <<< (r3 &&& 31))) hF
def p_X0_pickedBits (A_i : Nat → Int32) (A_p : Nat → Int32) (a1 : Int32) : Option (Int32) := q_X0_pickedBits_4 A_i A_p a1 FU 0 0
end
set_option maxRecDepth 100000 in
theorem c_X0_pickedBits (l : Launch) (D : va_G) (cI cS cII : ClassId) (AA : Nat → Nat) (A_i : Nat → Int32) (A_p : Nat → Int32) (A_t : Nat → Int32) (A_m : Int32) (a1 : Int32) {z_r : Int32} (hF : p_X0_pickedBits A_i A_p a1 = some z_r) : MJ l yX0_pickedBits cX0_pickedBits 4 (some .int) Rm_X0_pickedBits D (tysU cI cS cII) [.ref (AA 0), .int a1] (W_X0_pickedBits cI cS cII AA A_i A_p A_t A_m) (some z_r) (W_X0_pickedBits cI cS cII AA A_i A_p A_t A_m) := by
  refine mj_of (own := RX0) (by decide) rfl (Nat.le_of_ble_eq_true rfl) (fun J hJ => ?_)
  show J (W_X0_pickedBits cI cS cII AA A_i A_p A_t A_m) 0 [(0, .ref (AA 0)), (1, .int a1)] []
  unfold p_X0_pickedBits at hF
  refine jj_iconst hJ dX0_pickedBits_0 ic_0 ?_
  refine jj_istore_n hJ dX0_pickedBits_1 rfl (Nat.le_of_ble_eq_true rfl) (lv' := [(2, .int 0), (0, .ref (AA 0)), (1, .int a1)]) rfl ?_
  refine jj_iconst hJ dX0_pickedBits_2 ic_0 ?_
  refine jj_istore_n hJ dX0_pickedBits_3 rfl (Nat.le_of_ble_eq_true rfl) (lv' := [(3, .int 0), (2, .int 0), (0, .ref (AA 0)), (1, .int a1)]) rfl ?_
  exact w_X0_pickedBits_4 hJ  FU 0 0 hF
section
def W_X0_nextChoice (cI cS cII : ClassId) (AA : Nat → Nat) (A_i : Nat → Int32) (A_p : Nat → Int32) (A_t : Nat → Int32) (A_m : Int32) : va_W := [((AA 0), .inr (0, [.ref (AA 1), .ref (AA 2), .ref (AA 3), .int A_m])), ((AA 1), .inl (cI, 16, .inl A_i)), ((AA 2), .inl (cI, 3, .inl A_p)), ((AA 3), .inl (cI, 10, .inl A_t))]
abbrev Rm_X0_nextChoice : Room := { frames := 0, cells := 0, slots := 0, locals := 0 }
variable {l : Launch} {D : va_G} {cI cS cII : ClassId} {AA : Nat → Nat} {A : Nat → Prop} {J : jT}
variable {z_r : Int32} {z_A_p : Nat → Int32}
def q_X0_nextChoice_39 (A_m : Int32) (a1 : Int32)  : Nat → Int32 → (Nat → Int32) → Option (Int32 × (Nat → Int32))
  | 0, _, _ => none
  | n + 1, v3, A_p => if a1 ≤ v3 then (some (1, A_p)) else ((rd A_p 3 (v3 - 1)).bind fun x2 => (wr A_p 3 v3 (x2 + 1)).bind fun g4 => q_X0_nextChoice_39 A_m a1 n (v3 + 1) g4)
set_option maxRecDepth 100000 in
theorem w_X0_nextChoice_39 {A_i : Nat → Int32} {A_t : Nat → Int32} {A_m : Int32} {a1 : Int32}  (hJ : jJ l cX0_nextChoice 4 D (tysU cI cS cII) RX0 Rm_X0_nextChoice (some .boolean) A (some z_r) (W_X0_nextChoice cI cS cII AA A_i z_A_p A_t A_m) J)  : ∀ (n : Nat) (v3 : Int32) (A_p : Nat → Int32), q_X0_nextChoice_39 A_m a1 n v3 A_p = some (z_r, z_A_p) → J (W_X0_nextChoice cI cS cII AA A_i A_p A_t A_m) 39 [(3, .int v3), (0, .ref (AA 0)), (1, .int a1)] [] := by
  intro n
  induction n with
  | zero =>
    intro v3 A_p hF
    exact no_some (show (none : Option (Int32 × (Nat → Int32))) = some (z_r, z_A_p) from hF)
  | succ n ih =>
    intro v3 A_p hF
    rw [q_X0_nextChoice_39.eq_2] at hF
    refine jj_iload_n hJ dX0_nextChoice_39 0 rfl rfl ?_
    refine jj_iload_n hJ dX0_nextChoice_40 2 rfl rfl ?_
    refine jj_icmp_ge hJ 66 dX0_nextChoice_41 rfl (fun c1 => ?_) (fun c1 => ?_)
    · replace hF := ip c1 hF
      refine jj_iconst hJ dX0_nextChoice_66 ic_1 ?_
      cases Option.some.inj hF
      exact jj_zret hJ (Or.inr rfl) dX0_nextChoice_67
    · replace hF := iq c1 hF
      refine jj_aload_n hJ dX0_nextChoice_44 1 rfl rfl ?_
      refine jj_get hJ lay_X0 dX0_nextChoice_45 0 1 rfl rfl (Nat.le_of_ble_eq_true rfl) kw_108 rfl ?_
      refine jj_iload_n hJ dX0_nextChoice_48 0 rfl rfl ?_
      refine jj_aload_n hJ dX0_nextChoice_49 1 rfl rfl ?_
      refine jj_get hJ lay_X0 dX0_nextChoice_50 0 1 rfl rfl (Nat.le_of_ble_eq_true rfl) kw_108 rfl ?_
      refine jj_iload_n hJ dX0_nextChoice_53 0 rfl rfl ?_
      refine jj_iconst hJ dX0_nextChoice_54 ic_1 ?_
      refine jj_isub hJ dX0_nextChoice_55 ?_
      obtain ⟨x2, h3, hF⟩ := ob hF
      refine jj_iald hJ dX0_nextChoice_56 2 0 rfl rfl h3 ?_
      refine jj_iconst hJ dX0_nextChoice_57 ic_1 ?_
      refine jj_iadd hJ dX0_nextChoice_58 ?_
      obtain ⟨g4, h5, hF⟩ := ob hF
      refine jj_iast hJ dX0_nextChoice_59 2 0 rfl rfl h5 (wn := (W_X0_nextChoice cI cS cII AA A_i g4 A_t A_m)) rfl ?_
      refine jj_iinc hJ dX0_nextChoice_60 0 rfl (v := v3 + 1) (by rw [ic_1]) (Nat.le_of_ble_eq_true rfl) (lv' := [(3, .int (v3 + 1)), (0, .ref (AA 0)), (1, .int a1)]) rfl ?_
      refine jj_goto hJ 39 dX0_nextChoice_63 rfl ?_
      exact ih (v3 + 1) g4 hF
def q_X0_nextChoice_25 (A_m : Int32) (a1 : Int32)  (v2 : Int32) (A_p : Nat → Int32) : Option (Int32 × (Nat → Int32)) := (rd A_p 3 v2).bind fun x1 => (wr A_p 3 v2 (x1 + 1)).bind fun g3 => q_X0_nextChoice_39 A_m a1 FU (v2 + 1) g3
set_option maxRecDepth 100000 in
theorem w_X0_nextChoice_25 {A_i : Nat → Int32} {A_t : Nat → Int32} {A_m : Int32} {a1 : Int32}  (hJ : jJ l cX0_nextChoice 4 D (tysU cI cS cII) RX0 Rm_X0_nextChoice (some .boolean) A (some z_r) (W_X0_nextChoice cI cS cII AA A_i z_A_p A_t A_m) J)  : ∀ (v2 : Int32) (A_p : Nat → Int32), q_X0_nextChoice_25 A_m a1 v2 A_p = some (z_r, z_A_p) → J (W_X0_nextChoice cI cS cII AA A_i A_p A_t A_m) 25 [(2, .int v2), (0, .ref (AA 0)), (1, .int a1)] [] := by
  intro v2 A_p hF
  unfold q_X0_nextChoice_25 at hF
  refine jj_aload_n hJ dX0_nextChoice_25 1 rfl rfl ?_
  refine jj_get hJ lay_X0 dX0_nextChoice_26 0 1 rfl rfl (Nat.le_of_ble_eq_true rfl) kw_108 rfl ?_
  refine jj_iload_n hJ dX0_nextChoice_29 0 rfl rfl ?_
  refine jj_dup2 hJ dX0_nextChoice_30 rfl rfl ?_
  obtain ⟨x1, h2, hF⟩ := ob hF
  refine jj_iald hJ dX0_nextChoice_31 2 0 rfl rfl h2 ?_
  refine jj_iconst hJ dX0_nextChoice_32 ic_1 ?_
  refine jj_iadd hJ dX0_nextChoice_33 ?_
  obtain ⟨g3, h4, hF⟩ := ob hF
  refine jj_iast hJ dX0_nextChoice_34 2 0 rfl rfl h4 (wn := (W_X0_nextChoice cI cS cII AA A_i g3 A_t A_m)) rfl ?_
  refine jj_iload_n hJ dX0_nextChoice_35 0 rfl rfl ?_
  refine jj_iconst hJ dX0_nextChoice_36 ic_1 ?_
  refine jj_iadd hJ dX0_nextChoice_37 ?_
  refine jj_istore_n hJ dX0_nextChoice_38 rfl (Nat.le_of_ble_eq_true rfl) (lv' := [(3, .int (v2 + 1)), (2, .int v2), (0, .ref (AA 0)), (1, .int a1)]) rfl ?_
  refine jj_lv hJ [0, 2, 3] (lv' := [(3, .int (v2 + 1)), (0, .ref (AA 0)), (1, .int a1)]) rfl ?_
  exact w_X0_nextChoice_39 hJ  FU (v2 + 1) g3 hF
def q_X0_nextChoice_4 (A_m : Int32) (a1 : Int32)  : Nat → Int32 → (Nat → Int32) → Option (Int32 × (Nat → Int32))
  | 0, _, _ => none
  | n + 1, v2, A_p => if v2 < 0 then (some (0, A_p)) else ((rd A_p 3 v2).bind fun x2 => if ((A_m - a1) + v2) ≤ x2 then (q_X0_nextChoice_4 A_m a1 n (v2 + (-1)) A_p) else (q_X0_nextChoice_25 A_m a1 v2 A_p))
set_option maxRecDepth 100000 in
theorem w_X0_nextChoice_4 {A_i : Nat → Int32} {A_t : Nat → Int32} {A_m : Int32} {a1 : Int32}  (hJ : jJ l cX0_nextChoice 4 D (tysU cI cS cII) RX0 Rm_X0_nextChoice (some .boolean) A (some z_r) (W_X0_nextChoice cI cS cII AA A_i z_A_p A_t A_m) J)  : ∀ (n : Nat) (v2 : Int32) (A_p : Nat → Int32), q_X0_nextChoice_4 A_m a1 n v2 A_p = some (z_r, z_A_p) → J (W_X0_nextChoice cI cS cII AA A_i A_p A_t A_m) 4 [(2, .int v2), (0, .ref (AA 0)), (1, .int a1)] [] := by
  intro n
  induction n with
  | zero =>
    intro v2 A_p hF
    exact no_some (show (none : Option (Int32 × (Nat → Int32))) = some (z_r, z_A_p) from hF)
  | succ n ih =>
    intro v2 A_p hF
    rw [q_X0_nextChoice_4.eq_2] at hF
    refine jj_iload_n hJ dX0_nextChoice_4 0 rfl rfl ?_
    refine jj_if_lt hJ 74 dX0_nextChoice_5 rfl (fun c1 => ?_) (fun c1 => ?_)
    · replace hF := ip c1 hF
      refine jj_iconst hJ dX0_nextChoice_74 ic_0 ?_
      cases Option.some.inj hF
      exact jj_zret hJ (Or.inl rfl) dX0_nextChoice_75
    · replace hF := iq c1 hF
      refine jj_aload_n hJ dX0_nextChoice_8 1 rfl rfl ?_
      refine jj_get hJ lay_X0 dX0_nextChoice_9 0 1 rfl rfl (Nat.le_of_ble_eq_true rfl) kw_108 rfl ?_
      refine jj_iload_n hJ dX0_nextChoice_12 0 rfl rfl ?_
      obtain ⟨x2, h3, hF⟩ := ob hF
      refine jj_iald hJ dX0_nextChoice_13 2 0 rfl rfl h3 ?_
      refine jj_aload_n hJ dX0_nextChoice_14 1 rfl rfl ?_
      refine jj_get hJ lay_X0 dX0_nextChoice_15 0 3 rfl rfl (Nat.le_of_ble_eq_true rfl) kw_109 rfl ?_
      refine jj_iload_n hJ dX0_nextChoice_18 2 rfl rfl ?_
      refine jj_isub hJ dX0_nextChoice_19 ?_
      refine jj_iload_n hJ dX0_nextChoice_20 0 rfl rfl ?_
      refine jj_iadd hJ dX0_nextChoice_21 ?_
      refine jj_icmp_ge hJ 68 dX0_nextChoice_22 rfl (fun c4 => ?_) (fun c4 => ?_)
      · replace hF := ip c4 hF
        refine jj_iinc hJ dX0_nextChoice_68 0 rfl (v := v2 + (-1)) (by rw [ic_m1]) (Nat.le_of_ble_eq_true rfl) (lv' := [(2, .int (v2 + (-1))), (0, .ref (AA 0)), (1, .int a1)]) rfl ?_
        refine jj_goto hJ 4 dX0_nextChoice_71 rfl ?_
        exact ih (v2 + (-1)) A_p hF
      · replace hF := iq c4 hF
        exact w_X0_nextChoice_25 hJ  v2 A_p hF
def p_X0_nextChoice (A_p : Nat → Int32) (A_m : Int32) (a1 : Int32) : Option (Int32 × (Nat → Int32)) := q_X0_nextChoice_4 A_m a1 FU (a1 - 1) A_p
end
set_option maxRecDepth 100000 in
theorem c_X0_nextChoice (l : Launch) (D : va_G) (cI cS cII : ClassId) (AA : Nat → Nat) (A_i : Nat → Int32) (A_p : Nat → Int32) (A_t : Nat → Int32) (A_m : Int32) (a1 : Int32) {z_r : Int32} {z_A_p : Nat → Int32} (hF : p_X0_nextChoice A_p A_m a1 = some (z_r, z_A_p)) : MJ l yX0_nextChoice cX0_nextChoice 4 (some .boolean) Rm_X0_nextChoice D (tysU cI cS cII) [.ref (AA 0), .int a1] (W_X0_nextChoice cI cS cII AA A_i A_p A_t A_m) (some z_r) (W_X0_nextChoice cI cS cII AA A_i z_A_p A_t A_m) := by
  refine mj_of (own := RX0) (by decide) rfl (Nat.le_of_ble_eq_true rfl) (fun J hJ => ?_)
  show J (W_X0_nextChoice cI cS cII AA A_i A_p A_t A_m) 0 [(0, .ref (AA 0)), (1, .int a1)] []
  unfold p_X0_nextChoice at hF
  refine jj_iload_n hJ dX0_nextChoice_0 1 rfl rfl ?_
  refine jj_iconst hJ dX0_nextChoice_1 ic_1 ?_
  refine jj_isub hJ dX0_nextChoice_2 ?_
  refine jj_istore_n hJ dX0_nextChoice_3 rfl (Nat.le_of_ble_eq_true rfl) (lv' := [(2, .int (a1 - 1)), (0, .ref (AA 0)), (1, .int a1)]) rfl ?_
  exact w_X0_nextChoice_4 hJ  FU (a1 - 1) A_p hF
section
def W_X0_choose (cI cS cII : ClassId) (AA : Nat → Nat) (SA : Nat → Nat) (LA : Nat → Nat) (A_i : Nat → Int32) (A_p : Nat → Int32) (A_t : Nat → Int32) (A_m : Int32) (S_k : Nat → Int32) (S_f : Nat → Int32) (S_t : Nat → Int32) (S_w : Nat → Int32) (S_l : Int32) (S_b : Int32) (L_G : Nat → Nat → Int32) (L_l : Int32) : va_W := ([((AA 0), .inr (0, [.ref (AA 1), .ref (AA 2), .ref (AA 3), .int A_m])), ((AA 1), .inl (cI, 16, .inl A_i)), ((AA 2), .inl (cI, 3, .inl A_p)), ((AA 3), .inl (cI, 10, .inl A_t)), ((SA 0), .inr (4, [.ref (SA 1), .ref (SA 2), .ref (SA 3), .ref (SA 4), .int S_l, .int S_b])), ((SA 1), .inl (cI, 10, .inl S_k)), ((SA 2), .inl (cI, 16, .inl S_f)), ((SA 3), .inl (cI, 16, .inl S_t)), ((SA 4), .inl (cI, 16, .inl S_w)), ((LA 0), .inr (1, [.ref (LA 1), .int L_l])), ((LA 1), .inl (cII, 10, .inr (.inr (.inr (.inr (fun i => some (LA (i + 2))))))))] ++ rw10 cI (fun i => LA (i + 2)) L_G)
abbrev Rm_X0_choose : Room := { frames := 2, cells := 0, slots := 0, locals := 49 }
variable {l : Launch} {D : va_G} {cI cS cII : ClassId} {AA : Nat → Nat} {SA : Nat → Nat} {LA : Nat → Nat} {A : Nat → Prop} {J : jT}
variable {z_r : Int32} {z_A_i : Nat → Int32} {z_A_p : Nat → Int32} {z_A_t : Nat → Int32} {z_A_m : Int32}
def q_X0_choose_118 (S_f : Nat → Int32) (S_t : Nat → Int32) (S_w : Nat → Int32) (S_l : Int32) (S_b : Int32) (L_G : Nat → Nat → Int32) (a3 : Int32) (a4 : Int32) (a5 : Int32) (k14 : Int32 → (Nat → Int32) → (Nat → Int32) → (Nat → Int32) → Int32 → Option (Int32 × (Nat → Int32) × (Nat → Int32) × (Nat → Int32) × Int32)) (v6 : Int32) (A_i : Nat → Int32) (A_p : Nat → Int32) (A_t : Nat → Int32) (A_m : Int32) : Option (Int32 × (Nat → Int32) × (Nat → Int32) × (Nat → Int32) × Int32) := k14 (v6 + 1) A_i A_p A_t A_m
set_option maxRecDepth 100000 in
theorem w_X0_choose_118 {S_k : Nat → Int32} {S_f : Nat → Int32} {S_t : Nat → Int32} {S_w : Nat → Int32} {S_l : Int32} {S_b : Int32} {L_G : Nat → Nat → Int32} {L_l : Int32} {a3 : Int32} {a4 : Int32} {a5 : Int32} {k14 : Int32 → (Nat → Int32) → (Nat → Int32) → (Nat → Int32) → Int32 → Option (Int32 × (Nat → Int32) × (Nat → Int32) × (Nat → Int32) × Int32)} (hJ : jJ l cX0_choose 9 D (tysU cI cS cII) RX0 Rm_X0_choose (some .int) A (some z_r) (W_X0_choose cI cS cII AA SA LA z_A_i z_A_p z_A_t z_A_m S_k S_f S_t S_w S_l S_b L_G L_l) J) (hk14 : ∀ (v6 : Int32) (A_i : Nat → Int32) (A_p : Nat → Int32) (A_t : Nat → Int32) (A_m : Int32), k14 v6 A_i A_p A_t A_m = some (z_r, z_A_i, z_A_p, z_A_t, z_A_m) → J (W_X0_choose cI cS cII AA SA LA A_i A_p A_t A_m S_k S_f S_t S_w S_l S_b L_G L_l) 14 [(6, .int v6), (0, .ref (AA 0)), (1, .ref (SA 0)), (3, .int a3), (4, .int a4), (5, .int a5)] []) : ∀ (v6 : Int32) (A_i : Nat → Int32) (A_p : Nat → Int32) (A_t : Nat → Int32) (A_m : Int32), q_X0_choose_118 S_f S_t S_w S_l S_b L_G a3 a4 a5 k14 v6 A_i A_p A_t A_m = some (z_r, z_A_i, z_A_p, z_A_t, z_A_m) → J (W_X0_choose cI cS cII AA SA LA A_i A_p A_t A_m S_k S_f S_t S_w S_l S_b L_G L_l) 118 [(6, .int v6), (0, .ref (AA 0)), (1, .ref (SA 0)), (3, .int a3), (4, .int a4), (5, .int a5)] [] := by
  intro v6 A_i A_p A_t A_m hF
  unfold q_X0_choose_118 at hF
  refine jj_iinc hJ dX0_choose_118 0 rfl (v := v6 + 1) (by rw [ic_1]) (Nat.le_of_ble_eq_true rfl) (lv' := [(6, .int (v6 + 1)), (0, .ref (AA 0)), (1, .ref (SA 0)), (3, .int a3), (4, .int a4), (5, .int a5)]) rfl ?_
  refine jj_goto hJ 14 dX0_choose_121 rfl ?_
  exact hk14 (v6 + 1) A_i A_p A_t A_m hF
def q_X0_choose_60 (S_f : Nat → Int32) (S_t : Nat → Int32) (S_w : Nat → Int32) (S_l : Int32) (S_b : Int32) (L_G : Nat → Nat → Int32) (a3 : Int32) (a4 : Int32) (a5 : Int32) (k14 : Int32 → (Nat → Int32) → (Nat → Int32) → (Nat → Int32) → Int32 → Option (Int32 × (Nat → Int32) × (Nat → Int32) × (Nat → Int32) × Int32)) : Nat → Int32 → Int32 → Int32 → (Nat → Int32) → (Nat → Int32) → (Nat → Int32) → Int32 → Option (Int32 × (Nat → Int32) × (Nat → Int32) × (Nat → Int32) × Int32)
  | 0, _, _, _, _, _, _, _ => none
  | n + 1, v8, v7, v6, A_i, A_p, A_t, A_m => if 560 ≤ v8 then (q_X0_choose_118 S_f S_t S_w S_l S_b L_G a3 a4 a5 k14 v6 A_i A_p A_t A_m) else (if v7 = 0 then (q_X0_choose_118 S_f S_t S_w S_l S_b L_G a3 a4 a5 k14 v6 A_i A_p A_t A_m) else ((p_X0_pickedBits A_i A_p v6).bind fun r4 => (p_X4_lengthsFrom S_f S_t S_w S_l S_b A_t a5 r4).bind fun g6 => (rd g6 10 a3).bind fun x7 => if 0 < (x7 + a4) then ((p_X0_nextChoice A_p A_m v6).bind fun (r11, g12) => q_X0_choose_60 S_f S_t S_w S_l S_b L_G a3 a4 a5 k14 n (v8 + 1) r11 v6 A_i g12 g6 A_m) else (some (v6, A_i, A_p, g6, A_m))))
set_option maxRecDepth 100000 in
theorem w_X0_choose_60 {S_k : Nat → Int32} {S_f : Nat → Int32} {S_t : Nat → Int32} {S_w : Nat → Int32} {S_l : Int32} {S_b : Int32} {L_G : Nat → Nat → Int32} {L_l : Int32} {a3 : Int32} {a4 : Int32} {a5 : Int32} {k14 : Int32 → (Nat → Int32) → (Nat → Int32) → (Nat → Int32) → Int32 → Option (Int32 × (Nat → Int32) × (Nat → Int32) × (Nat → Int32) × Int32)} (hJ : jJ l cX0_choose 9 D (tysU cI cS cII) RX0 Rm_X0_choose (some .int) A (some z_r) (W_X0_choose cI cS cII AA SA LA z_A_i z_A_p z_A_t z_A_m S_k S_f S_t S_w S_l S_b L_G L_l) J) (hk14 : ∀ (v6 : Int32) (A_i : Nat → Int32) (A_p : Nat → Int32) (A_t : Nat → Int32) (A_m : Int32), k14 v6 A_i A_p A_t A_m = some (z_r, z_A_i, z_A_p, z_A_t, z_A_m) → J (W_X0_choose cI cS cII AA SA LA A_i A_p A_t A_m S_k S_f S_t S_w S_l S_b L_G L_l) 14 [(6, .int v6), (0, .ref (AA 0)), (1, .ref (SA 0)), (3, .int a3), (4, .int a4), (5, .int a5)] []) : ∀ (n : Nat) (v8 : Int32) (v7 : Int32) (v6 : Int32) (A_i : Nat → Int32) (A_p : Nat → Int32) (A_t : Nat → Int32) (A_m : Int32), q_X0_choose_60 S_f S_t S_w S_l S_b L_G a3 a4 a5 k14 n v8 v7 v6 A_i A_p A_t A_m = some (z_r, z_A_i, z_A_p, z_A_t, z_A_m) → J (W_X0_choose cI cS cII AA SA LA A_i A_p A_t A_m S_k S_f S_t S_w S_l S_b L_G L_l) 60 [(8, .int v8), (7, .int v7), (6, .int v6), (0, .ref (AA 0)), (1, .ref (SA 0)), (3, .int a3), (4, .int a4), (5, .int a5)] [] := by
  intro n
  induction n with
  | zero =>
    intro v8 v7 v6 A_i A_p A_t A_m hF
    exact no_some (show (none : Option (Int32 × (Nat → Int32) × (Nat → Int32) × (Nat → Int32) × Int32)) = some (z_r, z_A_i, z_A_p, z_A_t, z_A_m) from hF)
  | succ n ih =>
    intro v8 v7 v6 A_i A_p A_t A_m hF
    rw [q_X0_choose_60.eq_2] at hF
    refine jj_iload hJ dX0_choose_60 0 rfl ?_
    refine jj_sipush hJ dX0_choose_62 sp_560 ?_
    refine jj_icmp_ge hJ 118 dX0_choose_65 rfl (fun c1 => ?_) (fun c1 => ?_)
    · replace hF := ip c1 hF
      refine jj_lv hJ [2, 3, 4, 5, 6, 7] (lv' := [(6, .int v6), (0, .ref (AA 0)), (1, .ref (SA 0)), (3, .int a3), (4, .int a4), (5, .int a5)]) rfl ?_
      exact w_X0_choose_118 hJ hk14 v6 A_i A_p A_t A_m hF
    · replace hF := iq c1 hF
      refine jj_iload hJ dX0_choose_68 1 rfl ?_
      refine jj_if_eq hJ 118 dX0_choose_70 rfl (fun c2 => ?_) (fun c2 => ?_)
      · replace hF := ip c2 hF
        refine jj_lv hJ [2, 3, 4, 5, 6, 7] (lv' := [(6, .int v6), (0, .ref (AA 0)), (1, .ref (SA 0)), (3, .int a3), (4, .int a4), (5, .int a5)]) rfl ?_
        exact w_X0_choose_118 hJ hk14 v6 A_i A_p A_t A_m hF
      · replace hF := iq c2 hF
        refine jj_aload_n hJ dX0_choose_73 4 rfl rfl ?_
        refine jj_iload hJ dX0_choose_74 7 rfl ?_
        refine jj_aload_n hJ dX0_choose_76 3 rfl rfl ?_
        refine jj_iload hJ dX0_choose_77 2 rfl ?_
        obtain ⟨r4, h3, hF⟩ := ob hF
        refine jj_callV0 hJ (c_X0_pickedBits l D cI cS cII AA A_i A_p A_t A_m v6 h3) dX0_choose_79 kw_125 ⟨Nat.le_of_ble_eq_true rfl, Nat.le_of_ble_eq_true rfl, rfl, rfl⟩ kw_124 kw_126 kw_127 0 rfl rfl rfl rfl (Nat.le_of_ble_eq_true rfl) [0, 1, 2, 3] rfl rfl ?_
        refine jj_aload_n hJ dX0_choose_82 3 rfl rfl ?_
        refine jj_get hJ lay_X0 dX0_choose_83 0 2 rfl rfl (Nat.le_of_ble_eq_true rfl) kw_128 rfl ?_
        obtain ⟨g6, h5, hF⟩ := ob hF
        refine jj_callN hJ (c_X4_lengthsFrom l D cI cS cII SA (AA 3) S_k S_f S_t S_w S_l S_b A_t a5 r4 h5) dX0_choose_86 kw_22 ⟨Nat.le_of_ble_eq_true rfl, Nat.le_of_ble_eq_true rfl, rfl, rfl⟩ kw_129 kw_23 kw_24 4 rfl rfl rfl rfl (Nat.le_of_ble_eq_true rfl) [4, 5, 6, 7, 8, 3] rfl rfl (wn := (W_X0_choose cI cS cII AA SA LA A_i A_p g6 A_m S_k S_f S_t S_w S_l S_b L_G L_l)) (jNew_sel rfl [none, none, none, some 5, some 0, some 1, some 2, some 3, some 4, none, none, none, none, none, none, none, none, none, none, none, none] (by decide +kernel) rfl) ?_
        refine jj_aload_n hJ dX0_choose_89 3 rfl rfl ?_
        refine jj_get hJ lay_X0 dX0_choose_90 0 2 rfl rfl (Nat.le_of_ble_eq_true rfl) kw_128 rfl ?_
        refine jj_iload_n hJ dX0_choose_93 5 rfl rfl ?_
        obtain ⟨x7, h8, hF⟩ := ob hF
        refine jj_iald hJ dX0_choose_94 3 0 rfl rfl h8 ?_
        refine jj_iload hJ dX0_choose_95 6 rfl ?_
        refine jj_iadd hJ dX0_choose_97 ?_
        refine jj_if_gt hJ 104 dX0_choose_98 rfl (fun c9 => ?_) (fun c9 => ?_)
        · replace hF := ip c9 hF
          refine jj_aload_n hJ dX0_choose_104 3 rfl rfl ?_
          refine jj_iload hJ dX0_choose_105 2 rfl ?_
          obtain ⟨⟨r11, g12⟩, h10, hF⟩ := ob hF
          refine jj_callV hJ (c_X0_nextChoice l D cI cS cII AA A_i A_p g6 A_m v6 h10) dX0_choose_107 kw_131 ⟨Nat.le_of_ble_eq_true rfl, Nat.le_of_ble_eq_true rfl, rfl, rfl⟩ kw_130 kw_132 kw_133 0 rfl rfl rfl rfl (Nat.le_of_ble_eq_true rfl) [0, 1, 2, 3] rfl rfl (wn := (W_X0_choose cI cS cII AA SA LA A_i g12 g6 A_m S_k S_f S_t S_w S_l S_b L_G L_l)) (jNew_sel rfl [some 0, some 1, some 2, some 3, none, none, none, none, none, none, none, none, none, none, none, none, none, none, none, none, none] (by decide +kernel) rfl) ?_
          refine jj_istore hJ dX0_choose_110 (Nat.le_of_ble_eq_true rfl) (lv' := [(7, .int r11), (8, .int v8), (6, .int v6), (0, .ref (AA 0)), (1, .ref (SA 0)), (3, .int a3), (4, .int a4), (5, .int a5)]) rfl ?_
          refine jj_iinc hJ dX0_choose_112 1 rfl (v := v8 + 1) (by rw [ic_1]) (Nat.le_of_ble_eq_true rfl) (lv' := [(8, .int (v8 + 1)), (7, .int r11), (6, .int v6), (0, .ref (AA 0)), (1, .ref (SA 0)), (3, .int a3), (4, .int a4), (5, .int a5)]) rfl ?_
          refine jj_goto hJ 60 dX0_choose_115 rfl ?_
          exact ih (v8 + 1) r11 v6 A_i g12 g6 A_m hF
        · replace hF := iq c9 hF
          refine jj_iload hJ dX0_choose_101 2 rfl ?_
          cases Option.some.inj hF
          exact jj_iret hJ dX0_choose_103
def q_X0_choose_54 (S_f : Nat → Int32) (S_t : Nat → Int32) (S_w : Nat → Int32) (S_l : Int32) (S_b : Int32) (L_G : Nat → Nat → Int32) (a3 : Int32) (a4 : Int32) (a5 : Int32) (k14 : Int32 → (Nat → Int32) → (Nat → Int32) → (Nat → Int32) → Int32 → Option (Int32 × (Nat → Int32) × (Nat → Int32) × (Nat → Int32) × Int32)) (v6 : Int32) (A_i : Nat → Int32) (A_p : Nat → Int32) (A_t : Nat → Int32) (A_m : Int32) : Option (Int32 × (Nat → Int32) × (Nat → Int32) × (Nat → Int32) × Int32) := q_X0_choose_60 S_f S_t S_w S_l S_b L_G a3 a4 a5 k14 FU 0 1 v6 A_i A_p A_t A_m
set_option maxRecDepth 100000 in
theorem w_X0_choose_54 {S_k : Nat → Int32} {S_f : Nat → Int32} {S_t : Nat → Int32} {S_w : Nat → Int32} {S_l : Int32} {S_b : Int32} {L_G : Nat → Nat → Int32} {L_l : Int32} {a3 : Int32} {a4 : Int32} {a5 : Int32} {k14 : Int32 → (Nat → Int32) → (Nat → Int32) → (Nat → Int32) → Int32 → Option (Int32 × (Nat → Int32) × (Nat → Int32) × (Nat → Int32) × Int32)} (hJ : jJ l cX0_choose 9 D (tysU cI cS cII) RX0 Rm_X0_choose (some .int) A (some z_r) (W_X0_choose cI cS cII AA SA LA z_A_i z_A_p z_A_t z_A_m S_k S_f S_t S_w S_l S_b L_G L_l) J) (hk14 : ∀ (v6 : Int32) (A_i : Nat → Int32) (A_p : Nat → Int32) (A_t : Nat → Int32) (A_m : Int32), k14 v6 A_i A_p A_t A_m = some (z_r, z_A_i, z_A_p, z_A_t, z_A_m) → J (W_X0_choose cI cS cII AA SA LA A_i A_p A_t A_m S_k S_f S_t S_w S_l S_b L_G L_l) 14 [(6, .int v6), (0, .ref (AA 0)), (1, .ref (SA 0)), (3, .int a3), (4, .int a4), (5, .int a5)] []) : ∀ (v6 : Int32) (A_i : Nat → Int32) (A_p : Nat → Int32) (A_t : Nat → Int32) (A_m : Int32), q_X0_choose_54 S_f S_t S_w S_l S_b L_G a3 a4 a5 k14 v6 A_i A_p A_t A_m = some (z_r, z_A_i, z_A_p, z_A_t, z_A_m) → J (W_X0_choose cI cS cII AA SA LA A_i A_p A_t A_m S_k S_f S_t S_w S_l S_b L_G L_l) 54 [(6, .int v6), (0, .ref (AA 0)), (1, .ref (SA 0)), (3, .int a3), (4, .int a4), (5, .int a5)] [] := by
  intro v6 A_i A_p A_t A_m hF
  unfold q_X0_choose_54 at hF
  refine jj_iconst hJ dX0_choose_54 ic_1 ?_
  refine jj_istore hJ dX0_choose_55 (Nat.le_of_ble_eq_true rfl) (lv' := [(7, .int 1), (6, .int v6), (0, .ref (AA 0)), (1, .ref (SA 0)), (3, .int a3), (4, .int a4), (5, .int a5)]) rfl ?_
  refine jj_iconst hJ dX0_choose_57 ic_0 ?_
  refine jj_istore hJ dX0_choose_58 (Nat.le_of_ble_eq_true rfl) (lv' := [(8, .int 0), (7, .int 1), (6, .int v6), (0, .ref (AA 0)), (1, .ref (SA 0)), (3, .int a3), (4, .int a4), (5, .int a5)]) rfl ?_
  exact w_X0_choose_60 hJ hk14 FU 0 1 v6 A_i A_p A_t A_m hF
def q_X0_choose_32 (S_f : Nat → Int32) (S_t : Nat → Int32) (S_w : Nat → Int32) (S_l : Int32) (S_b : Int32) (L_G : Nat → Nat → Int32) (a3 : Int32) (a4 : Int32) (a5 : Int32) (k14 : Int32 → (Nat → Int32) → (Nat → Int32) → (Nat → Int32) → Int32 → Option (Int32 × (Nat → Int32) × (Nat → Int32) × (Nat → Int32) × Int32)) : Nat → Int32 → Int32 → (Nat → Int32) → (Nat → Int32) → (Nat → Int32) → Int32 → Option (Int32 × (Nat → Int32) × (Nat → Int32) × (Nat → Int32) × Int32)
  | 0, _, _, _, _, _, _ => none
  | n + 1, v7, v6, A_i, A_p, A_t, A_m => if v6 ≤ v7 then (q_X0_choose_54 S_f S_t S_w S_l S_b L_G a3 a4 a5 k14 v6 A_i A_p A_t A_m) else ((wr A_p 3 v7 v7).bind fun g2 => q_X0_choose_32 S_f S_t S_w S_l S_b L_G a3 a4 a5 k14 n (v7 + 1) v6 A_i g2 A_t A_m)
set_option maxRecDepth 100000 in
theorem w_X0_choose_32 {S_k : Nat → Int32} {S_f : Nat → Int32} {S_t : Nat → Int32} {S_w : Nat → Int32} {S_l : Int32} {S_b : Int32} {L_G : Nat → Nat → Int32} {L_l : Int32} {a3 : Int32} {a4 : Int32} {a5 : Int32} {k14 : Int32 → (Nat → Int32) → (Nat → Int32) → (Nat → Int32) → Int32 → Option (Int32 × (Nat → Int32) × (Nat → Int32) × (Nat → Int32) × Int32)} (hJ : jJ l cX0_choose 9 D (tysU cI cS cII) RX0 Rm_X0_choose (some .int) A (some z_r) (W_X0_choose cI cS cII AA SA LA z_A_i z_A_p z_A_t z_A_m S_k S_f S_t S_w S_l S_b L_G L_l) J) (hk14 : ∀ (v6 : Int32) (A_i : Nat → Int32) (A_p : Nat → Int32) (A_t : Nat → Int32) (A_m : Int32), k14 v6 A_i A_p A_t A_m = some (z_r, z_A_i, z_A_p, z_A_t, z_A_m) → J (W_X0_choose cI cS cII AA SA LA A_i A_p A_t A_m S_k S_f S_t S_w S_l S_b L_G L_l) 14 [(6, .int v6), (0, .ref (AA 0)), (1, .ref (SA 0)), (3, .int a3), (4, .int a4), (5, .int a5)] []) : ∀ (n : Nat) (v7 : Int32) (v6 : Int32) (A_i : Nat → Int32) (A_p : Nat → Int32) (A_t : Nat → Int32) (A_m : Int32), q_X0_choose_32 S_f S_t S_w S_l S_b L_G a3 a4 a5 k14 n v7 v6 A_i A_p A_t A_m = some (z_r, z_A_i, z_A_p, z_A_t, z_A_m) → J (W_X0_choose cI cS cII AA SA LA A_i A_p A_t A_m S_k S_f S_t S_w S_l S_b L_G L_l) 32 [(7, .int v7), (6, .int v6), (0, .ref (AA 0)), (1, .ref (SA 0)), (3, .int a3), (4, .int a4), (5, .int a5)] [] := by
  intro n
  induction n with
  | zero =>
    intro v7 v6 A_i A_p A_t A_m hF
    exact no_some (show (none : Option (Int32 × (Nat → Int32) × (Nat → Int32) × (Nat → Int32) × Int32)) = some (z_r, z_A_i, z_A_p, z_A_t, z_A_m) from hF)
  | succ n ih =>
    intro v7 v6 A_i A_p A_t A_m hF
    rw [q_X0_choose_32.eq_2] at hF
    refine jj_iload hJ dX0_choose_32 0 rfl ?_
    refine jj_iload hJ dX0_choose_34 1 rfl ?_
    refine jj_icmp_ge hJ 54 dX0_choose_36 rfl (fun c1 => ?_) (fun c1 => ?_)
    · replace hF := ip c1 hF
      refine jj_lv hJ [1, 2, 3, 4, 5, 6] (lv' := [(6, .int v6), (0, .ref (AA 0)), (1, .ref (SA 0)), (3, .int a3), (4, .int a4), (5, .int a5)]) rfl ?_
      exact w_X0_choose_54 hJ hk14 v6 A_i A_p A_t A_m hF
    · replace hF := iq c1 hF
      refine jj_aload_n hJ dX0_choose_39 2 rfl rfl ?_
      refine jj_get hJ lay_X0 dX0_choose_40 0 1 rfl rfl (Nat.le_of_ble_eq_true rfl) kw_108 rfl ?_
      refine jj_iload hJ dX0_choose_43 0 rfl ?_
      refine jj_iload hJ dX0_choose_45 0 rfl ?_
      obtain ⟨g2, h3, hF⟩ := ob hF
      refine jj_iast hJ dX0_choose_47 2 0 rfl rfl h3 (wn := (W_X0_choose cI cS cII AA SA LA A_i g2 A_t A_m S_k S_f S_t S_w S_l S_b L_G L_l)) rfl ?_
      refine jj_iinc hJ dX0_choose_48 0 rfl (v := v7 + 1) (by rw [ic_1]) (Nat.le_of_ble_eq_true rfl) (lv' := [(7, .int (v7 + 1)), (6, .int v6), (0, .ref (AA 0)), (1, .ref (SA 0)), (3, .int a3), (4, .int a4), (5, .int a5)]) rfl ?_
      refine jj_goto hJ 32 dX0_choose_51 rfl ?_
      exact ih (v7 + 1) v6 A_i g2 A_t A_m hF
def q_X0_choose_14 (S_f : Nat → Int32) (S_t : Nat → Int32) (S_w : Nat → Int32) (S_l : Int32) (S_b : Int32) (L_G : Nat → Nat → Int32) (a3 : Int32) (a4 : Int32) (a5 : Int32)  : Nat → Int32 → (Nat → Int32) → (Nat → Int32) → (Nat → Int32) → Int32 → Option (Int32 × (Nat → Int32) × (Nat → Int32) × (Nat → Int32) × Int32)
  | 0, _, _, _, _, _ => none
  | n + 1, v6, A_i, A_p, A_t, A_m => if 3 < v6 then (some ((-4), A_i, A_p, A_t, A_m)) else (if A_m < v6 then (some ((-4), A_i, A_p, A_t, A_m)) else (q_X0_choose_32 S_f S_t S_w S_l S_b L_G a3 a4 a5 (q_X0_choose_14 S_f S_t S_w S_l S_b L_G a3 a4 a5 n) FU 0 v6 A_i A_p A_t A_m))
set_option maxRecDepth 100000 in
theorem w_X0_choose_14 {S_k : Nat → Int32} {S_f : Nat → Int32} {S_t : Nat → Int32} {S_w : Nat → Int32} {S_l : Int32} {S_b : Int32} {L_G : Nat → Nat → Int32} {L_l : Int32} {a3 : Int32} {a4 : Int32} {a5 : Int32}  (hJ : jJ l cX0_choose 9 D (tysU cI cS cII) RX0 Rm_X0_choose (some .int) A (some z_r) (W_X0_choose cI cS cII AA SA LA z_A_i z_A_p z_A_t z_A_m S_k S_f S_t S_w S_l S_b L_G L_l) J)  : ∀ (n : Nat) (v6 : Int32) (A_i : Nat → Int32) (A_p : Nat → Int32) (A_t : Nat → Int32) (A_m : Int32), q_X0_choose_14 S_f S_t S_w S_l S_b L_G a3 a4 a5 n v6 A_i A_p A_t A_m = some (z_r, z_A_i, z_A_p, z_A_t, z_A_m) → J (W_X0_choose cI cS cII AA SA LA A_i A_p A_t A_m S_k S_f S_t S_w S_l S_b L_G L_l) 14 [(6, .int v6), (0, .ref (AA 0)), (1, .ref (SA 0)), (3, .int a3), (4, .int a4), (5, .int a5)] [] := by
  intro n
  induction n with
  | zero =>
    intro v6 A_i A_p A_t A_m hF
    exact no_some (show (none : Option (Int32 × (Nat → Int32) × (Nat → Int32) × (Nat → Int32) × Int32)) = some (z_r, z_A_i, z_A_p, z_A_t, z_A_m) from hF)
  | succ n ih =>
    intro v6 A_i A_p A_t A_m hF
    rw [q_X0_choose_14.eq_2] at hF
    refine jj_iload hJ dX0_choose_14 0 rfl ?_
    refine jj_iconst hJ dX0_choose_16 ic_3 ?_
    refine jj_icmp_gt hJ 124 dX0_choose_17 rfl (fun c1 => ?_) (fun c1 => ?_)
    · replace hF := ip c1 hF
      refine jj_bipush hJ dX0_choose_124 bp_m4 ?_
      cases Option.some.inj hF
      exact jj_iret hJ dX0_choose_126
    · replace hF := iq c1 hF
      refine jj_iload hJ dX0_choose_20 0 rfl ?_
      refine jj_aload_n hJ dX0_choose_22 1 rfl rfl ?_
      refine jj_get hJ lay_X0 dX0_choose_23 0 3 rfl rfl (Nat.le_of_ble_eq_true rfl) kw_109 rfl ?_
      refine jj_icmp_gt hJ 124 dX0_choose_26 rfl (fun c2 => ?_) (fun c2 => ?_)
      · replace hF := ip c2 hF
        refine jj_bipush hJ dX0_choose_124 bp_m4 ?_
        cases Option.some.inj hF
        exact jj_iret hJ dX0_choose_126
      · replace hF := iq c2 hF
        refine jj_iconst hJ dX0_choose_29 ic_0 ?_
        refine jj_istore hJ dX0_choose_30 (Nat.le_of_ble_eq_true rfl) (lv' := [(7, .int 0), (6, .int v6), (0, .ref (AA 0)), (1, .ref (SA 0)), (3, .int a3), (4, .int a4), (5, .int a5)]) rfl ?_
        exact w_X0_choose_32 hJ (fun v6 A_i A_p A_t A_m => ih v6 A_i A_p A_t A_m) FU 0 v6 A_i A_p A_t A_m hF
def p_X0_choose (A_i : Nat → Int32) (A_p : Nat → Int32) (A_t : Nat → Int32) (A_m : Int32) (S_f : Nat → Int32) (S_t : Nat → Int32) (S_w : Nat → Int32) (S_l : Int32) (S_b : Int32) (L_G : Nat → Nat → Int32) (a3 : Int32) (a4 : Int32) (a5 : Int32) : Option (Int32 × (Nat → Int32) × (Nat → Int32) × (Nat → Int32) × Int32) := (p_X0_gather A_i A_m S_f S_t S_w S_b L_G a3 a4 a5).bind fun (g2, g3) => q_X0_choose_14 S_f S_t S_w S_l S_b L_G a3 a4 a5 FU 0 g2 A_p A_t g3
end
set_option maxRecDepth 100000 in
theorem c_X0_choose (l : Launch) (D : va_G) (cI cS cII : ClassId) (AA : Nat → Nat) (SA : Nat → Nat) (LA : Nat → Nat) (A_i : Nat → Int32) (A_p : Nat → Int32) (A_t : Nat → Int32) (A_m : Int32) (S_k : Nat → Int32) (S_f : Nat → Int32) (S_t : Nat → Int32) (S_w : Nat → Int32) (S_l : Int32) (S_b : Int32) (L_G : Nat → Nat → Int32) (L_l : Int32) (a3 : Int32) (a4 : Int32) (a5 : Int32) {z_r : Int32} {z_A_i : Nat → Int32} {z_A_p : Nat → Int32} {z_A_t : Nat → Int32} {z_A_m : Int32} (hF : p_X0_choose A_i A_p A_t A_m S_f S_t S_w S_l S_b L_G a3 a4 a5 = some (z_r, z_A_i, z_A_p, z_A_t, z_A_m)) : MJ l yX0_choose cX0_choose 9 (some .int) Rm_X0_choose D (tysU cI cS cII) [.ref (AA 0), .ref (SA 0), .ref (LA 0), .int a3, .int a4, .int a5] (W_X0_choose cI cS cII AA SA LA A_i A_p A_t A_m S_k S_f S_t S_w S_l S_b L_G L_l) (some z_r) (W_X0_choose cI cS cII AA SA LA z_A_i z_A_p z_A_t z_A_m S_k S_f S_t S_w S_l S_b L_G L_l) := by
  refine mj_of (own := RX0) (by decide) rfl (Nat.le_of_ble_eq_true rfl) (fun J hJ => ?_)
  show J (W_X0_choose cI cS cII AA SA LA A_i A_p A_t A_m S_k S_f S_t S_w S_l S_b L_G L_l) 0 [(0, .ref (AA 0)), (1, .ref (SA 0)), (2, .ref (LA 0)), (3, .int a3), (4, .int a4), (5, .int a5)] []
  unfold p_X0_choose at hF
  refine jj_aload_n hJ dX0_choose_0 0 rfl rfl ?_
  refine jj_aload_n hJ dX0_choose_1 1 rfl rfl ?_
  refine jj_aload_n hJ dX0_choose_2 2 rfl rfl ?_
  refine jj_iload_n hJ dX0_choose_3 3 rfl rfl ?_
  refine jj_iload hJ dX0_choose_4 4 rfl ?_
  refine jj_iload hJ dX0_choose_6 5 rfl ?_
  obtain ⟨⟨g2, g3⟩, h1, hF⟩ := ob hF
  refine jj_callV hJ (c_X0_gather l D cI cS cII AA SA LA A_i A_p A_t A_m S_k S_f S_t S_w S_l S_b L_G L_l a3 a4 a5 h1) dX0_choose_8 kw_121 ⟨Nat.le_of_ble_eq_true rfl, Nat.le_of_ble_eq_true rfl, rfl, rfl⟩ kw_120 kw_122 kw_123 0 rfl rfl rfl rfl (Nat.le_of_ble_eq_true rfl) [0, 1, 2, 3, 4, 5, 6, 7, 8, 9, 10, 11, 12, 13, 14, 15, 16, 17, 18, 19, 20] rfl rfl (wn := (W_X0_choose cI cS cII AA SA LA g2 A_p A_t g3 S_k S_f S_t S_w S_l S_b L_G L_l)) (jNew_sel rfl [some 0, some 1, some 2, some 3, some 4, some 5, some 6, some 7, some 8, some 9, some 10, some 11, some 12, some 13, some 14, some 15, some 16, some 17, some 18, some 19, some 20] (by decide +kernel) rfl) ?_
  refine jj_iconst hJ dX0_choose_11 ic_0 ?_
  refine jj_istore hJ dX0_choose_12 (Nat.le_of_ble_eq_true rfl) (lv' := [(6, .int 0), (0, .ref (AA 0)), (1, .ref (SA 0)), (2, .ref (LA 0)), (3, .int a3), (4, .int a4), (5, .int a5)]) rfl ?_
  refine jj_lv hJ [0, 1, 2, 4, 5, 6] (lv' := [(6, .int 0), (0, .ref (AA 0)), (1, .ref (SA 0)), (3, .int a3), (4, .int a4), (5, .int a5)]) rfl ?_
  exact w_X0_choose_14 hJ  FU 0 g2 A_p A_t g3 hF
