/-! What the start gives: classes, words, the text constant. -/
theorem st_AW {b : Nat} {s : State} (hts : ∀ w ∈ lw_tbl, w.before #[Value.ref b] s = true) : AW s := fun w hw hg a => word_at (args := #[Value.ref b]) (State.WarmedH.refl s) (good_of_word hg) (hts w hw)
theorem st_NW {b : Nat} {s : State} (hts : ∀ w ∈ lw_tbl, w.before #[Value.ref b] s = true) : NW s := ⟨fun q hq => va_Nw.of rfl (hts _ (nestF_in q hq)), fun q hq => va_Nw.of rfl (hts _ (nestM_in q hq))⟩
theorem st_K {b : Nat} {s : State} (hts : ∀ w ∈ lw_tbl, w.before #[Value.ref b] s = true) : ∃ (D : va_G) (cI cS cII : ClassId), va_K D vwCl (tysU cI cS cII) s := by
  obtain ⟨c0, iS0, hKn0⟩ := u_known (C := RX0) (T := TX0) (N := 4) (n := 4) hts (fun w h => (lay_X0 w h).1) (hts (.instantiable RX0 4) (tb1 (i := 104) rfl))
  obtain ⟨c1, iS1, hKn1⟩ := u_known (C := RX1) (T := TX1) (N := 2) (n := 2) hts (fun w h => (lay_X1 w h).1) (hts (.instantiable RX1 2) (tb1 (i := 86) rfl))
  obtain ⟨c2, iS2, hKn2⟩ := u_known (C := RX2) (T := TX2) (N := 4) (n := 4) hts (fun w h => (lay_X2 w h).1) (hts (.instantiable RX2 4) (tb1 (i := 142) rfl))
  obtain ⟨c3, iS3, hKn3⟩ := u_known (C := RX3) (T := TX3) (N := 3) (n := 3) hts (fun w h => (lay_X3 w h).1) (hts (.instantiable RX3 3) (tb1 (i := 123) rfl))
  obtain ⟨c4, iS4, hKn4⟩ := u_known (C := RX4) (T := TX4) (N := 6) (n := 6) hts (fun w h => (lay_X4 w h).1) (hts (.instantiable RX4 6) (tb1 (i := 44) rfl))
  obtain ⟨c5, iS5, hKn5⟩ := u_known (C := RX5) (T := TX5) (N := 3) (n := 3) hts (fun w h => (lay_X5 w h).1) (hts (.instantiable RX5 3) (tb1 (i := 25) rfl))
  obtain ⟨c6, iS6, hKn6⟩ := u_known (C := RX6) (T := TX6) (N := 13) (n := 13) hts (fun w h => (lay_X6 w h).1) (hts (.instantiable RX6 13) (tb1 (i := 17) rfl))
  obtain ⟨c7, iS7, hKn7⟩ := u_known (C := RX7) (T := TX7) (N := 24) (n := 24) hts (fun w h => (lay_X7 w h).1) (hts (.instantiable RX7 24) (tb3 (i := 118) rfl))
  obtain ⟨cI, kI, compI, i1, i2, i3⟩ := Cond.arrayClass_spec (hts (.arrayClass .int) (tb1 (i := 42) rfl))
  obtain ⟨compS, cS, kS, s1, -, s3, s4, s5⟩ := Cond.arrayOver_spec (hts (.arrayOver (.object "UniverseLevels$State")) (tb1 (i := 84) rfl))
  obtain ⟨compII, cII, kII, -, -, t3, t4, t5⟩ := arrayOverA_spec (hts (.arrayOver (.array .int)) (tb1 (i := 92) rfl))
  refine ⟨(fun k => [c0, c1, c2, c3, c4, c5, c6].getD k c7, fun k => [iS0, iS1, iS2, iS3, iS4, iS5, iS6].getD k iS7), cI, cS, cII, fun k q hq => ?_, fun k q hq => ?_⟩
  · match k, hq with
    | 0, hq => cases hq; exact hKn0
    | 1, hq => cases hq; exact hKn1
    | 2, hq => cases hq; exact hKn2
    | 3, hq => cases hq; exact hKn3
    | 4, hq => cases hq; exact hKn4
    | 5, hq => cases hq; exact hKn5
    | 6, hq => cases hq; exact hKn6
    | 7, hq => cases hq; exact hKn7
    | k + 8, hq => simp [vwCl] at hq
  · match k, hq with
    | 0, hq => cases hq; exact ⟨fun n z => ⟨fun k h => (by cases h), kI, i2, compI, i3⟩, i1⟩
    | 1, hq => cases hq; exact ⟨fun n z => ⟨fun k h => (by cases h), kS, s3, compS, s4⟩, kS, compS, s3, s4, s1, s5⟩
    | 2, hq => cases hq; exact ⟨fun n z => ⟨fun k h => (by cases h), kII, t3, compII, t4⟩, t5⟩
    | k + 3, hq => simp at hq
abbrev txT : Term := .string "UniverseLevels" 65
theorem tx_el : ∀ j : Fin 77, Cond.eq (.elem (.field txT "java/lang/String" "value" "[B") (.int (Int32.ofNat j.val))) (.int (txB.getD j.val 0)) ∈ flatC (Jvm.Cond.and given_1 narrow_1) := by decide +kernel
theorem st_X {b : Nat} {s : State} (hts : ∀ w ∈ lw_tbl, w.before #[Value.ref b] s = true) (hgv : (Jvm.Cond.and given_1 narrow_1).before #[Value.ref b] s = true) {A : Nat → Prop} (hnA : ∀ a : Nat, a < s.heap.size → ¬ A a) : ∃ (a v : Nat) (fv : Value), (fv = .null ∨ ∃ t, fv = .ref t) ∧ xI a v fv A s := by
  have hfl := flat_of_before _ hgv
  obtain ⟨adK, adV, hSt, hTm⟩ := vk_Sof (args := #[Value.ref b]) (s := s) (N := 1) (tm := fun _ => txT) (len := [77]) (byt := [txB]) (A := A)
    (fun i hi => by have e : i = 0 := by omega
                    subst e; decide)
    (fun i hi => hfl _ (by decide +kernel)) (fun i hi => hfl _ (by decide +kernel)) (fun i hi => hfl _ (by decide +kernel))
    (fun i hi => by have e : i = 0 := by omega
                    subst e; exact hfl _ (by decide +kernel))
    (fun i hi j hj => by have e : i = 0 := by omega
                         subst e; exact hfl _ (tx_el ⟨j, hj⟩))
    (fun i j hi hj h => absurd (show i = j by omega) h) hnA
  obtain ⟨fv, hfv, hZ3⟩ : ∃ fv : Value, (fv = .null ∨ ∃ t, fv = .ref t) ∧ va_Z "jdk/internal/util/Preconditions" "SIOOBE_FORMATTER" "Ljava/util/function/BiFunction;" fv A s s.heap := by
    rcases va_Zqof (hts (.laysStatic "jdk/internal/util/Preconditions" "SIOOBE_FORMATTER" "Ljava/util/function/BiFunction;") (tb1 (i := 188) rfl)) (hts (.initialized "jdk/internal/util/Preconditions") (tb1 (i := 10) rfl)) (hfl _ (by decide +kernel)) hnA with h | ⟨t, h⟩
    · exact ⟨.null, Or.inl rfl, h⟩
    · exact ⟨.ref t, Or.inr ⟨t, rfl⟩, h⟩
  refine ⟨adK 0, adV 0, fv, hfv, ⟨⟨fun i hi => ?_, fun i j hi hj _ => by omega⟩, ?_, hZ3⟩, vk_R.of (hts (.stringRef "UniverseLevels" 65 txS) (tb1 (i := 162) rfl)) (hTm 0 (by decide)), va_AO.of (hts (.arrayOver (.object "UniverseLevels$State")) (tb1 (i := 84) rfl)), fun a => hts (.arrayOver (.array .int)) (tb1 (i := 92) rfl)⟩
  · have e : i = 0 := by omega
    subst e
    exact hSt.1 0 (by decide)
  · exact va_Zof (hts (.laysStatic "java/lang/String" "COMPACT_STRINGS" "Z") (tb1 (i := 172) rfl)) (hts (.initialized "java/lang/String") (tb1 (i := 8) rfl)) (va_eqt (hfl (Cond.eq (.static "java/lang/String" "COMPACT_STRINGS" "Z") (.int 1)) (by decide +kernel))) hnA
