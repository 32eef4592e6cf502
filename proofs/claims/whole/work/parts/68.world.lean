/-! The whole world of the class and of the reference. -/
def WR (cI cS cII : ClassId) (RA : Nat → Nat) (R_u : Int32) (R_q : Int32) (R_r : Int32) (X_c : Nat → Int32) (X_d : Nat → Int32) (X_n : Int32) (N_k : Nat → Int32) (N_f : Nat → Int32) (N_t : Nat → Int32) (N_w : Nat → Int32) (N_l : Int32) (N_b : Int32) (L_G : Nat → Nat → Int32) (L_l : Int32) (T_x : Nat → Int32) (A_i : Nat → Int32) (A_p : Nat → Int32) (A_t : Nat → Int32) (A_m : Int32) (M_v : Nat → Int32) (M_m : Nat → Int32) (M_s : Int32) (Q_v : Nat → Int32) (Q_m : Nat → Int32) (Q_s : Int32) (O_v : Nat → Int32) (O_n : Nat → Int32) (O_s : Int32) (O_a : Int32) (E_p : Nat → Nat) (E_k : Nat → Nat → Int32) (E_f : Nat → Nat → Int32) (E_t : Nat → Nat → Int32) (E_w : Nat → Nat → Int32) (E_l : Nat → Int32) (E_b : Nat → Int32) (K_k : Nat → Nat → Int32) (K_f : Nat → Nat → Int32) (K_t : Nat → Nat → Int32) (K_w : Nat → Nat → Int32) (K_l : Nat → Int32) (K_b : Nat → Int32) : va_W := W_X6_layText cI cS cII RA R_u R_q R_r X_c X_d X_n M_v M_m M_s O_v O_n O_s O_a N_k N_f N_t N_w N_l N_b E_p E_k E_f E_t E_w E_l E_b L_G L_l ++ (keptW cI cS RA K_k K_f K_t K_w K_l K_b ++ [((RA 23), .inl (cI, 10, .inl T_x)), ((RA 24), .inr (0, [.ref (RA 25), .ref (RA 26), .ref (RA 27), .int A_m])), ((RA 25), .inl (cI, 16, .inl A_i)), ((RA 26), .inl (cI, 3, .inl A_p)), ((RA 27), .inl (cI, 10, .inl A_t)), ((RA 31), .inr (3, [.ref (RA 32), .ref (RA 33), .int Q_s])), ((RA 32), .inl (cI, 10, .inl Q_v)), ((RA 33), .inl (cI, 10, .inl Q_m))])
theorem kc_X5_init : cwOk yX5_init cX5_init 1 none 0 := ⟨tb1 (i := 28) rfl, tb1 (i := 2) rfl, by decide +kernel, by decide +kernel, by decide +kernel⟩
theorem kc_X4_init : cwOk yX4_init cX4_init 1 none 0 := ⟨tb1 (i := 47) rfl, tb1 (i := 3) rfl, by decide +kernel, by decide +kernel, by decide +kernel⟩
theorem kc_X1_init : cwOk yX1_init cX1_init 1 none 0 := ⟨tb1 (i := 89) rfl, tb1 (i := 4) rfl, by decide +kernel, by decide +kernel, by decide +kernel⟩
theorem kc_X0_init : cwOk yX0_init cX0_init 1 none 0 := ⟨tb1 (i := 107) rfl, tb1 (i := 5) rfl, by decide +kernel, by decide +kernel, by decide +kernel⟩
theorem kc_X3_init : cwOk yX3_init cX3_init 1 none 0 := ⟨tb1 (i := 126) rfl, tb1 (i := 6) rfl, by decide +kernel, by decide +kernel, by decide +kernel⟩
theorem kc_X2_init : cwOk yX2_init cX2_init 1 none 0 := ⟨tb1 (i := 145) rfl, tb1 (i := 7) rfl, by decide +kernel, by decide +kernel, by decide +kernel⟩
theorem kn_X5_init : ((RX6, 9, yX5_init, "UniverseLevels") : String × Nat × MethodName × String) ∈ nestM := List.mem_of_getElem? (i := 0) rfl
theorem kn_X4_init : ((RX6, 18, yX4_init, "UniverseLevels") : String × Nat × MethodName × String) ∈ nestM := List.mem_of_getElem? (i := 1) rfl
theorem kn_X1_init : ((RX6, 32, yX1_init, "UniverseLevels") : String × Nat × MethodName × String) ∈ nestM := List.mem_of_getElem? (i := 2) rfl
theorem kn_X0_init : ((RX6, 43, yX0_init, "UniverseLevels") : String × Nat × MethodName × String) ∈ nestM := List.mem_of_getElem? (i := 3) rfl
theorem kn_X3_init : ((RX6, 50, yX3_init, "UniverseLevels") : String × Nat × MethodName × String) ∈ nestM := List.mem_of_getElem? (i := 4) rfl
theorem kn_X2_init : ((RX6, 60, yX2_init, "UniverseLevels") : String × Nat × MethodName × String) ∈ nestM := List.mem_of_getElem? (i := 5) rfl
theorem cons_mid {x y : Nat × va_E} {P S F : va_W} : (x :: (P ++ [y] ++ S)) ++ F = x :: (P ++ [y] ++ (S ++ F)) := by simp
theorem get_mid {x y : Nat × va_E} {P S : va_W} : (x :: (P ++ [y] ++ S))[P.length + 1]? = some y := by simp
theorem set_mid {x y z : Nat × va_E} {P S : va_W} : (x :: (P ++ [y] ++ S)).set (P.length + 1) z = x :: (P ++ [z] ++ S) := by simp
theorem get_end {x y z : Nat × va_E} {P S F : va_W} : (x :: (P ++ [y] ++ (S ++ (z :: F))))[P.length + 2 + S.length]? = some z := by
  rw [show P.length + 2 + S.length = (P.length + 1 + S.length) + 1 by omega, List.getElem?_cons_succ, List.append_assoc, List.getElem?_append_right (by omega), show P.length + 1 + S.length - P.length = S.length + 1 by omega, List.singleton_append, List.getElem?_cons_succ, List.getElem?_append_right (Nat.le_refl _), Nat.sub_self]; rfl
theorem x6_ear {l : Launch} {D : va_G} {cI cS cII : ClassId} {R : Room} {A : Nat → Prop} {Z : nZ} {J : nT} {ck cs b ea i : Nat} {fs : List Value} {P S : va_W} {f : Nat → Option Nat} (hJ : nJ l cX6_init 2 D (tysU cI cS cII) RX6 R A Z J) (hi : i < 8) (hfs : fs[2]? = some (.ref ea)) (hR : cwRn R Rm_X4_init 1 4 58) (hcc : ck + 1 + 4 ≤ R.cells ∧ cs + 6 + 58 ≤ R.slots) (kk : ∀ q q1 q2 q3 q4 : Nat, J (ck + 1 + 4) (cs + 6 + 58) ((b, .inr (6, fs)) :: (P ++ [(ea, .inl (cS, 8, .inr (.inr (.inr (.inr (va_up f i (some q)))))))] ++ (S ++ fX4_init cI q [q1, q2, q3, q4]))) 37 [(1, .int (nI (i + 1))), (0, .ref b)] []) : J ck cs ((b, .inr (6, fs)) :: (P ++ [(ea, .inl (cS, 8, .inr (.inr (.inr (.inr f)))))] ++ S)) 37 [(1, .int (nI i)), (0, .ref b)] [] := by
  refine nn_iload_n hJ dX6_init_37 0 rfl rfl ?_
  refine nn_bipush hJ (v := nI 8) dX6_init_38 (by decide) ?_
  refine nn_icmp_ge hJ 62 dX6_init_40 (by decide) (fun q => absurd q (nI_ge (a := i) (b := 8) hi (by decide))) (fun _ => ?_)
  refine nn_aload_n hJ dX6_init_43 1 rfl rfl ?_
  refine nn_get hJ lay_X6 dX6_init_44 0 2 rfl rfl (by decide) (tb2 (i := 76) rfl) hfs ?_
  refine nn_iload_n hJ dX6_init_47 0 rfl rfl ?_
  refine nn_make hJ (F := (fun b qs => fX4_init cI b qs)) (X := (fun _ => True)) lay_X4 tyX4 tyX4_ok dX6_init_48 dX6_init_51 dX6_init_52 (tb1 (i := 43) rfl) (tb1 (i := 44) rfl) (tb1 (i := 3) rfl) rfl (fun j hj => by rcases (show j = 0 ∨ j = 1 ∨ j = 2 ∨ j = 3 ∨ j = 4 ∨ j = 5 by omega) with rfl | rfl | rfl | rfl | rfl | rfl <;> rfl) (fun b sz => c_X4_init l D cI cS cII b sz) (fun _ _ _ _ _ => trivial) (fun _ _ _ _ _ _ _ _ => trivial) kc_X4_init rfl hR kn_X4_init (tb1 (i := 46) rfl) (fun _ _ => rfl) (Nat.le_of_ble_eq_true rfl) hcc (fun q qs hqs => ?_)
  obtain ⟨q1, q2, q3, q4, rfl⟩ := len4 hqs
  rw [cons_mid]
  refine nn_aast hJ dX6_init_55 (P.length + 1) 1 (P.length + 2 + S.length) get_mid rfl (r := (RX4, TX4, 6)) get_end rfl (vp_in_nI (N := 8) hi (by decide)) rfl rfl ?_
  rw [set_mid, nI_clamp (by omega)]
  refine nn_iinc hJ dX6_init_56 0 rfl (v := nI (i + 1)) (by show nI i + 1 = _; exact nI_1 i) (by decide) rfl ?_
  refine nn_goto hJ 37 dX6_init_59 (by decide) ?_
  exact kk q q1 q2 q3 q4
theorem x6_kep {l : Launch} {D : va_G} {cI cS cII : ClassId} {R : Room} {A : Nat → Prop} {Z : nZ} {J : nT} {ck cs b ea i : Nat} {fs : List Value} {P S : va_W} {f : Nat → Option Nat} (hJ : nJ l cX6_init 2 D (tysU cI cS cII) RX6 R A Z J) (hi : i < 2) (hfs : fs[4]? = some (.ref ea)) (hR : cwRn R Rm_X4_init 1 4 58) (hcc : ck + 1 + 4 ≤ R.cells ∧ cs + 6 + 58 ≤ R.slots) (kk : ∀ q q1 q2 q3 q4 : Nat, J (ck + 1 + 4) (cs + 6 + 58) ((b, .inr (6, fs)) :: (P ++ [(ea, .inl (cS, 2, .inr (.inr (.inr (.inr (va_up f i (some q)))))))] ++ (S ++ fX4_init cI q [q1, q2, q3, q4]))) 72 [(1, .int (nI (i + 1))), (0, .ref b)] []) : J ck cs ((b, .inr (6, fs)) :: (P ++ [(ea, .inl (cS, 2, .inr (.inr (.inr (.inr f)))))] ++ S)) 72 [(1, .int (nI i)), (0, .ref b)] [] := by
  refine nn_iload_n hJ dX6_init_72 0 rfl rfl ?_
  refine nn_iconst hJ (v := nI 2) dX6_init_73 (by decide) ?_
  refine nn_icmp_ge hJ 96 dX6_init_74 (by decide) (fun q => absurd q (nI_ge (a := i) (b := 2) hi (by decide))) (fun _ => ?_)
  refine nn_aload_n hJ dX6_init_77 1 rfl rfl ?_
  refine nn_get hJ lay_X6 dX6_init_78 0 4 rfl rfl (by decide) (tb2 (i := 78) rfl) hfs ?_
  refine nn_iload_n hJ dX6_init_81 0 rfl rfl ?_
  refine nn_make hJ (F := (fun b qs => fX4_init cI b qs)) (X := (fun _ => True)) lay_X4 tyX4 tyX4_ok dX6_init_82 dX6_init_85 dX6_init_86 (tb1 (i := 43) rfl) (tb1 (i := 44) rfl) (tb1 (i := 3) rfl) rfl (fun j hj => by rcases (show j = 0 ∨ j = 1 ∨ j = 2 ∨ j = 3 ∨ j = 4 ∨ j = 5 by omega) with rfl | rfl | rfl | rfl | rfl | rfl <;> rfl) (fun b sz => c_X4_init l D cI cS cII b sz) (fun _ _ _ _ _ => trivial) (fun _ _ _ _ _ _ _ _ => trivial) kc_X4_init rfl hR kn_X4_init (tb1 (i := 46) rfl) (fun _ _ => rfl) (Nat.le_of_ble_eq_true rfl) hcc (fun q qs hqs => ?_)
  obtain ⟨q1, q2, q3, q4, rfl⟩ := len4 hqs
  rw [cons_mid]
  refine nn_aast hJ dX6_init_89 (P.length + 1) 1 (P.length + 2 + S.length) get_mid rfl (r := (RX4, TX4, 6)) get_end rfl (vp_in_nI (N := 2) hi (by decide)) rfl rfl ?_
  rw [set_mid, nI_clamp (by omega)]
  refine nn_iinc hJ dX6_init_90 0 rfl (v := nI (i + 1)) (by show nI i + 1 = _; exact nI_1 i) (by decide) rfl ?_
  refine nn_goto hJ 72 dX6_init_93 (by decide) ?_
  exact kk q q1 q2 q3 q4
