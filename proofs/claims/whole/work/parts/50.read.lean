/-! the text: letters, numbers, items -/
def LA (len : Nat) (X : Nat → Int32) (j : Nat) : Int32 := if j < len then X j else 0
theorem letC {len : Nat} {X_c text : Nat → Int32} (h : TXr len X_c text) {j : Nat} (hj : j < 1000) : p_X5_letterAt X_c (nI len) (nI j) = some (LA len text j) ∧ p_X7_letterAt (nI len) text (nI j) = some (LA len text j) := by
  obtain ⟨h1, h2⟩ := h
  unfold p_X5_letterAt p_X7_letterAt LA
  rw [if_neg (show ¬ nI j < 0 from fun q => by have := tlt.mp q; rw [tnI (by omega), tlit0] at this; omega)]
  by_cases c : j < len
  · rw [if_neg (nI_ge (a := j) (b := len) (by omega) (by omega)), if_neg (nI_ge (a := j) (b := len) (by omega) (by omega)), if_pos c, rd_nI (by omega) (by omega), rd_nI (by omega) (by omega), bsome, bsome, (h2 j c).1]
    exact ⟨rfl, rfl⟩
  · rw [if_pos ((nIle (by omega) (by omega)).mpr (by omega)), if_pos ((nIle (by omega) (by omega)).mpr (by omega)), if_neg c]
    exact ⟨rfl, rfl⟩
theorem LA.in {len j : Nat} {X : Nat → Int32} (h : LA len X j ≠ 0) : j < len := by
  unfold LA at h
  by_cases c : j < len
  · exact c
  · rw [if_neg c] at h; exact (h rfl).elim
theorem figC (x : Int32) : (48 ≤ x.toInt ∧ x.toInt ≤ 57 ∧ p_X5_isFigure x = some 1 ∧ p_X7_in x.toInt64 48 57 = some 1) ∨ ((x.toInt < 48 ∨ 57 < x.toInt) ∧ p_X5_isFigure x = some 0 ∧ p_X7_in x.toInt64 48 57 = some 0) := by
  have t48 : (48 : Int32).toInt = 48 := by decide
  have t57 : (57 : Int32).toInt = 57 := by decide
  unfold p_X5_isFigure
  rcases ii (x := x) (L := 48) (H := 57) (a := 48) (b := 57) (by decide) (by decide) with ⟨h1, h2, h3⟩ | ⟨h1, h3⟩
  · refine Or.inl ⟨h1, h2, ?_, h3⟩
    rw [if_neg (fun q => by have := tlt.mp q; omega), if_neg (fun q => by have := tlt.mp q; omega)]
  · refine Or.inr ⟨h1, ?_, h3⟩
    by_cases c : x < 48
    · rw [if_pos c]
    · have c' : ¬ x.toInt < 48 := fun q => c (tlt.mpr (by omega))
      rw [if_neg c, if_pos (tlt.mpr (by omega))]
def endL (wn i : Nat) : Int32 := if i + 1 = wn then 59 else 44
theorem endL.fig (wn i : Nat) : (endL wn i).toInt = 59 ∨ (endL wn i).toInt = 44 := by
  unfold endL
  by_cases c : i + 1 = wn
  · rw [if_pos c]; exact Or.inl (by decide)
  · rw [if_neg c]; exact Or.inr (by decide)
theorem LA_end {len wn i j : Nat} {X : Nat → Int32} (h : LA len X j = endL wn i) : j < len := LA.in fun q => by
  have := endL.fig wn i
  rw [← h, q, tlit0] at this
  omega
section
variable {len : Nat} {X_c text : Nat → Int32}
/-- the rest of a number, there -/
theorem mnum_end {wn i j : Nat} (h : TXr len X_c text) (hi : i < wn) (hw : wn ≤ 3) (hj : j < 900) (k2 : Int32 → Int32 → (Nat → Int32) → Option (Int32 × Int32 × (Nat → Int32))) (v : Int32) {c : Nat} (hc : c = 1 ∨ c = 2) (num : Nat → Int32) : q_X7_numbers_73 (nI len) text (nI wn) k2 v (nI c) (nI i) (nI j) num = if LA len text j = endL wn i then k2 (nI (i + 1)) (nI (j + 1)) (upd num i v) else some (0, nI j, num) := by
  unfold q_X7_numbers_73 q_X7_numbers_107
  have e1 : p_X7_in (nI c).toInt64 1 2 = some 1 := by rcases hc with rfl | rfl <;> decide
  obtain ⟨w', rfl⟩ : ∃ q, wn = q + 1 := ⟨wn - 1, by omega⟩
  rw [e1, bsome, z0, (letC h (by omega)).2, bsome, nI_pred, wr_nI (by omega) (by omega), bsome, nI1, nI1]
  unfold endL
  by_cases c1 : i = w'
  · rw [if_pos ((nIle (by omega) (by omega)).mpr (by omega)), if_pos (show i + 1 = w' + 1 by omega)]
  · rw [if_neg (nI_ge (a := i) (b := w') (by omega) (by omega)), if_neg (show ¬ i + 1 = w' + 1 by omega)]
theorem num_step (h : TXr len X_c text) {wn i j : Nat} (hi : i < wn) (hw : wn ≤ 3) (hj : j < 800) :
    (∃ (v : Int32) (j' : Nat), j + 2 ≤ j' ∧ j' ≤ len ∧ 0 ≤ v.toInt ∧ v.toInt ≤ 99 ∧ (∀ (fuel : Nat) (X_d : Nat → Int32) (a1 : Int32), q_X5_readItem_16 X_c (nI len) a1 (fuel + 1) (nI i) (nI j) (nI wn) X_d = q_X5_readItem_16 X_c (nI len) a1 fuel (nI (i + 1)) (nI j') (nI wn) (upd X_d i v)) ∧ (∀ (fuel : Nat) (num : Nat → Int32), q_X7_numbers_2 (nI len) text (nI wn) (fuel + 1) (nI i) (nI j) num = q_X7_numbers_2 (nI len) text (nI wn) fuel (nI (i + 1)) (nI j') (upd num i v))) ∨
    ((∀ (fuel : Nat) (X_d : Nat → Int32) (a1 : Int32), q_X5_readItem_16 X_c (nI len) a1 (fuel + 1) (nI i) (nI j) (nI wn) X_d = some (-4, X_d)) ∧ (∀ (fuel : Nat) (num : Nat → Int32), ∃ sp, q_X7_numbers_2 (nI len) text (nI wn) (fuel + 1) (nI i) (nI j) num = some (0, sp, num))) := by
  obtain ⟨w', rfl⟩ : ∃ q, wn = q + 1 := ⟨wn - 1, by omega⟩
  have l0 := letC h (j := j) (by omega)
  have l1 := letC h (j := j + 1) (by omega)
  have l2 := letC h (j := j + 2) (by omega)
  have l3 := letC h (j := j + 3) (by omega)
  have t48 : (48 : Int32).toInt = 48 := by decide
  obtain ⟨FR, hFR⟩ := FUeq 5 (by omega)
  -- the class's step, down to its three letters
  have cls : ∀ (fuel : Nat) (X_d : Nat → Int32) (a1 : Int32), q_X5_readItem_16 X_c (nI len) a1 (fuel + 1) (nI i) (nI j) (nI (w' + 1)) X_d = (p_X5_figuresAt X_c (nI len) (nI j)).bind fun r4 => q_X5_readItem_44 X_c (nI len) a1 (q_X5_readItem_16 X_c (nI len) a1 fuel) r4 (nI i) (nI j) (nI (w' + 1)) (endL (w' + 1) i) X_d := fun fuel X_d a1 => by
    rw [q_X5_readItem_16.eq_2, if_neg (nI_ge (a := i) (b := w' + 1) (by omega) (by omega)), nI_pred]
    unfold endL
    by_cases c : i = w'
    · rw [if_pos (show i + 1 = w' + 1 by omega)]; simp only [if_pos (show nI i = nI w' by rw [c])]
    · rw [if_neg (show ¬ i + 1 = w' + 1 by omega)]; simp only [if_neg (show ¬ nI i = nI w' from fun q => c ((nI_inj (by omega) (by omega)).mp q))]
  have mdl : ∀ (fuel : Nat) (num : Nat → Int32), q_X7_numbers_2 (nI len) text (nI (w' + 1)) (fuel + 1) (nI i) (nI j) num = q_X7_numbers_12 (nI len) text (nI (w' + 1)) (q_X7_numbers_2 (nI len) text (nI (w' + 1)) fuel) (FR + 5) 0 (nI 0) (nI i) (nI j) num := fun fuel num => by
    rw [q_X7_numbers_2.eq_2, if_neg (nI_ge (a := i) (b := w' + 1) (by omega) (by omega)), hFR]
    rfl
  unfold p_X5_figuresAt at cls
  simp only [l0.1, nI1, l1.1, bsome] at cls
  rcases figC (LA len text j) with ⟨f1, f2, f3, f4⟩ | ⟨f1, f3, f4⟩
  · rcases figC (LA len text (j + 1)) with ⟨g1, g2, g3, g4⟩ | ⟨g1, g3, g4⟩
    · -- two figures
      have hv : (((LA len text j - 48) * 10 + LA len text (j + 1)) - 48).toInt = (LA len text j).toInt * 10 + (LA len text (j + 1)).toInt - 528 := by
        have a1 : (LA len text j - 48).toInt = (LA len text j).toInt - 48 := by rw [tsub (by omega) (by omega), t48]
        have t10 : (10 : Int32).toInt = 10 := by decide
        have a2 : ((LA len text j - 48) * 10).toInt = ((LA len text j).toInt - 48) * 10 := by rw [tmul (by rw [a1, t10]; omega) (by rw [a1, t10]; omega), a1, t10]
        have a3 : ((LA len text j - 48) * 10 + LA len text (j + 1)).toInt = ((LA len text j).toInt - 48) * 10 + (LA len text (j + 1)).toInt := by rw [tadd (by omega) (by omega), a2]
        rw [tsub (by omega) (by omega), a3, t48]
        omega
      have hm4 : ((10 : Int32) * ((10 * 0 + LA len text j) - 48) + LA len text (j + 1)) - 48 = (((LA len text j - 48) * 10 + LA len text (j + 1)) - 48) := by
        rw [show (10 : Int32) * 0 = 0 from rfl, Int32.zero_add, Int32.mul_comm]
      have clsA : ∀ (fuel : Nat) (X_d : Nat → Int32) (a1 : Int32), q_X5_readItem_16 X_c (nI len) a1 (fuel + 1) (nI i) (nI j) (nI (w' + 1)) X_d = if LA len text (j + 2) = endL (w' + 1) i then q_X5_readItem_16 X_c (nI len) a1 fuel (nI (i + 1)) (nI (j + 3)) (nI (w' + 1)) (upd X_d i (((LA len text j - 48) * 10 + LA len text (j + 1)) - 48)) else some (-4, X_d) := fun fuel X_d a1 => by
        rw [cls]
        simp only [f3, bsome, z0, g3]
        unfold q_X5_readItem_44 p_X5_numberAt
        rw [if_neg (show ¬ (2 : Int32) = 0 by decide), show nI j + 2 = nI (j + 2) from nIadd j 2, l2.1, bsome, l0.1, bsome, if_neg (show ¬ (2 : Int32) = 1 by decide), nI1, l1.1, bsome, bsome, wr_nI (by omega) (by omega), bsome, nI1, show nI j + (2 + 1) = nI (j + 3) from nIadd j 3]
      have mdlA : ∀ (fuel : Nat) (num : Nat → Int32), q_X7_numbers_2 (nI len) text (nI (w' + 1)) (fuel + 1) (nI i) (nI j) num = q_X7_numbers_12 (nI len) text (nI (w' + 1)) (q_X7_numbers_2 (nI len) text (nI (w' + 1)) fuel) (FR + 3) (((LA len text j - 48) * 10 + LA len text (j + 1)) - 48) (nI 2) (nI i) (nI (j + 2)) num := fun fuel num => by
        rw [mdl, q_X7_numbers_12.eq_2]
        simp only [l0.2, bsome, f4, z0]
        rw [if_neg (show ¬ (3 : Int32) ≤ nI 0 by decide), nI1, nI1, q_X7_numbers_12.eq_2]
        simp only [l1.2, bsome, g4, z0]
        rw [if_neg (show ¬ (3 : Int32) ≤ nI (0 + 1) by decide), nI1, nI1, hm4]
      rcases figC (LA len text (j + 2)) with ⟨h1, h2, h3, h4⟩ | ⟨h1, h3, h4⟩
      · -- three figures
        refine Or.inr ⟨fun fuel X_d a1 => ?_, fun fuel num => ⟨nI (j + 3), ?_⟩⟩
        · rw [clsA, if_neg (fun q => by have := endL.fig (w' + 1) i; rw [← q] at this; omega)]
        · rw [mdlA, q_X7_numbers_12.eq_2]
          simp only [l2.2, bsome, h4, z0]
          rw [if_neg (show ¬ (3 : Int32) ≤ nI 2 by decide), nI1, nI1, q_X7_numbers_12.eq_2]
          have e73 : ∀ (v : Int32), q_X7_numbers_73 (nI len) text (nI (w' + 1)) (q_X7_numbers_2 (nI len) text (nI (w' + 1)) fuel) v (nI (2 + 1)) (nI i) (nI (j + 2 + 1)) num = some (0, nI (j + 3), num) := fun v => by
            unfold q_X7_numbers_73
            rw [show p_X7_in (nI (2 + 1)).toInt64 1 2 = some 0 by decide, bsome, z1]
          have l3' : p_X7_letterAt (nI len) text (nI (j + 2 + 1)) = some (LA len text (j + 3)) := l3.2
          simp only [l3', bsome]
          rcases figC (LA len text (j + 3)) with ⟨-, -, -, k4⟩ | ⟨-, -, k4⟩
          · rw [k4, bsome, z0, if_pos (show (3 : Int32) ≤ nI (2 + 1) by decide), e73]
          · rw [k4, bsome, z1, e73]
      · -- two, and what stands behind them
        have mdlB : ∀ (fuel : Nat) (num : Nat → Int32), q_X7_numbers_2 (nI len) text (nI (w' + 1)) (fuel + 1) (nI i) (nI j) num = if LA len text (j + 2) = endL (w' + 1) i then q_X7_numbers_2 (nI len) text (nI (w' + 1)) fuel (nI (i + 1)) (nI (j + 3)) (upd num i (((LA len text j - 48) * 10 + LA len text (j + 1)) - 48)) else some (0, nI (j + 2), num) := fun fuel num => by
          rw [mdlA, q_X7_numbers_12.eq_2]
          simp only [l2.2, bsome, h4, z1, if_true]
          exact mnum_end h hi hw (by omega) _ _ (Or.inr rfl) num
        by_cases c : LA len text (j + 2) = endL (w' + 1) i
        · have := LA_end c
          refine Or.inl ⟨_, j + 3, by omega, by omega, ?_, ?_, fun fuel X_d a1 => by rw [clsA, if_pos c], fun fuel num => by rw [mdlB, if_pos c]⟩
          · rw [hv]; omega
          · rw [hv]; omega
        · exact Or.inr ⟨fun fuel X_d a1 => by rw [clsA, if_neg c], fun fuel num => ⟨_, by rw [mdlB, if_neg c]⟩⟩
    · -- one figure
      have hv : (LA len text j - 48).toInt = (LA len text j).toInt - 48 := by rw [tsub (by omega) (by omega), t48]
      have hm4 : ((10 : Int32) * 0 + LA len text j) - 48 = LA len text j - 48 := by rw [show (10 : Int32) * 0 = 0 from rfl, Int32.zero_add]
      have clsA : ∀ (fuel : Nat) (X_d : Nat → Int32) (a1 : Int32), q_X5_readItem_16 X_c (nI len) a1 (fuel + 1) (nI i) (nI j) (nI (w' + 1)) X_d = if LA len text (j + 1) = endL (w' + 1) i then q_X5_readItem_16 X_c (nI len) a1 fuel (nI (i + 1)) (nI (j + 2)) (nI (w' + 1)) (upd X_d i (LA len text j - 48)) else some (-4, X_d) := fun fuel X_d a1 => by
        rw [cls]
        simp only [f3, bsome, z0, g3, z1, if_true]
        unfold q_X5_readItem_44 p_X5_numberAt
        rw [if_neg (show ¬ (1 : Int32) = 0 by decide), nI1, l1.1, bsome, l0.1, bsome, if_pos (rfl : (1 : Int32) = 1), bsome, wr_nI (by omega) (by omega), bsome, nI1, show nI j + (1 + 1) = nI (j + 2) from nIadd j 2]
      have mdlB : ∀ (fuel : Nat) (num : Nat → Int32), q_X7_numbers_2 (nI len) text (nI (w' + 1)) (fuel + 1) (nI i) (nI j) num = if LA len text (j + 1) = endL (w' + 1) i then q_X7_numbers_2 (nI len) text (nI (w' + 1)) fuel (nI (i + 1)) (nI (j + 2)) (upd num i (LA len text j - 48)) else some (0, nI (j + 1), num) := fun fuel num => by
        rw [mdl, q_X7_numbers_12.eq_2]
        simp only [l0.2, bsome, f4, z0]
        rw [if_neg (show ¬ (3 : Int32) ≤ nI 0 by decide), nI1, nI1, q_X7_numbers_12.eq_2]
        simp only [l1.2, bsome, g4, z1, if_true]
        rw [hm4]
        exact mnum_end h hi hw (by omega) _ _ (Or.inl rfl) num
      by_cases c : LA len text (j + 1) = endL (w' + 1) i
      · have := LA_end c
        refine Or.inl ⟨_, j + 2, by omega, by omega, ?_, ?_, fun fuel X_d a1 => by rw [clsA, if_pos c], fun fuel num => by rw [mdlB, if_pos c]⟩
        · rw [hv]; omega
        · rw [hv]; omega
      · exact Or.inr ⟨fun fuel X_d a1 => by rw [clsA, if_neg c], fun fuel num => ⟨_, by rw [mdlB, if_neg c]⟩⟩
  · -- none
    refine Or.inr ⟨fun fuel X_d a1 => ?_, fun fuel num => ⟨nI j, ?_⟩⟩
    · rw [cls]
      simp only [f3, bsome, z1, if_true]
      unfold q_X5_readItem_44
      rw [if_pos rfl]
    · rw [mdl, q_X7_numbers_12.eq_2]
      simp only [l0.2, bsome, f4, z1, if_true]
      unfold q_X7_numbers_73
      rw [show p_X7_in (nI 0).toInt64 1 2 = some 0 by decide, bsome, z1]
/-- one number, three numbers -/
theorem nums1 (h : TXr len X_c text) {j : Nat} (hj : j < 700) : (∃ (v : Int32) (j' : Nat), j + 2 ≤ j' ∧ j' ≤ len ∧ 0 ≤ v.toInt ∧ v.toInt ≤ 99 ∧ (∀ X_d a1, q_X5_readItem_16 X_c (nI len) a1 FU 0 (nI j) 1 X_d = some (nI j', upd X_d 0 v)) ∧ (∀ num, p_X7_numbers (nI len) text (nI j) num 1 = some (1, nI j', upd num 0 v))) ∨ ((∀ X_d a1, ∃ X_d', q_X5_readItem_16 X_c (nI len) a1 FU 0 (nI j) 1 X_d = some (-4, X_d')) ∧ (∀ num, ∃ sp num', p_X7_numbers (nI len) text (nI j) num 1 = some (0, sp, num'))) := by
  obtain ⟨FR, hFR⟩ := FUeq 2 (by omega)
  unfold p_X7_numbers
  rw [hFR]
  rcases num_step h (wn := 1) (i := 0) (j := j) (by omega) (by omega) (by omega) with ⟨v, j', h1, h2, h3, h4, h5, h6⟩ | ⟨h5, h6⟩
  · refine Or.inl ⟨v, j', h1, h2, h3, h4, fun X_d a1 => ?_, fun num => ?_⟩
    · show q_X5_readItem_16 X_c (nI len) a1 (FR + 1 + 1) (nI 0) (nI j) (nI 1) X_d = _
      rw [h5, q_X5_readItem_16.eq_2, if_pos (show nI 1 ≤ nI (0 + 1) by decide), if_neg (show ¬ nI 1 = 0 by decide)]
    · show q_X7_numbers_2 (nI len) text (nI 1) (FR + 1 + 1) (nI 0) (nI j) num = _
      rw [h6, q_X7_numbers_2.eq_2, if_pos (show nI 1 ≤ nI (0 + 1) by decide)]
  · exact Or.inr ⟨fun X_d a1 => ⟨X_d, h5 (FR + 1) X_d a1⟩, fun num => by
      obtain ⟨sp, q⟩ := h6 (FR + 1) num
      exact ⟨sp, num, q⟩⟩
theorem nums3 (h : TXr len X_c text) {j : Nat} (hj : j < 300) : (∃ (v0 v1 v2 : Int32) (j' : Nat), j + 6 ≤ j' ∧ j' ≤ len ∧ 0 ≤ v0.toInt ∧ v0.toInt ≤ 99 ∧ 0 ≤ v1.toInt ∧ v1.toInt ≤ 99 ∧ 0 ≤ v2.toInt ∧ v2.toInt ≤ 99 ∧ (∀ X_d a1, q_X5_readItem_16 X_c (nI len) a1 FU 0 (nI j) 3 X_d = some (nI j', upd (upd (upd X_d 0 v0) 1 v1) 2 v2)) ∧ (∀ num, p_X7_numbers (nI len) text (nI j) num 3 = some (1, nI j', upd (upd (upd num 0 v0) 1 v1) 2 v2))) ∨ ((∀ X_d a1, ∃ X_d', q_X5_readItem_16 X_c (nI len) a1 FU 0 (nI j) 3 X_d = some (-4, X_d')) ∧ (∀ num, ∃ sp num', p_X7_numbers (nI len) text (nI j) num 3 = some (0, sp, num'))) := by
  obtain ⟨FR, hFR⟩ := FUeq 4 (by omega)
  have hl := h.1
  unfold p_X7_numbers
  rw [hFR]
  show (∃ (v0 v1 v2 : Int32) (j' : Nat), j + 6 ≤ j' ∧ j' ≤ len ∧ 0 ≤ v0.toInt ∧ v0.toInt ≤ 99 ∧ 0 ≤ v1.toInt ∧ v1.toInt ≤ 99 ∧ 0 ≤ v2.toInt ∧ v2.toInt ≤ 99 ∧ (∀ X_d a1, q_X5_readItem_16 X_c (nI len) a1 (FR + 3 + 1) (nI 0) (nI j) (nI 3) X_d = _) ∧ (∀ num, q_X7_numbers_2 (nI len) text (nI 3) (FR + 3 + 1) (nI 0) (nI j) num = _)) ∨ ((∀ X_d a1, ∃ X_d', q_X5_readItem_16 X_c (nI len) a1 (FR + 3 + 1) (nI 0) (nI j) (nI 3) X_d = some (-4, X_d')) ∧ (∀ num, ∃ sp num', q_X7_numbers_2 (nI len) text (nI 3) (FR + 3 + 1) (nI 0) (nI j) num = some (0, sp, num')))
  rcases num_step h (wn := 3) (i := 0) (j := j) (by omega) (by omega) (by omega) with ⟨v0, j0, a1, a2, a3, a4, a5, a6⟩ | ⟨a5, a6⟩
  · rcases num_step h (wn := 3) (i := 0 + 1) (j := j0) (by omega) (by omega) (by omega) with ⟨v1, j1, b1, b2, b3, b4, b5, b6⟩ | ⟨b5, b6⟩
    · rcases num_step h (wn := 3) (i := 0 + 1 + 1) (j := j1) (by omega) (by omega) (by omega) with ⟨v2, j2, c1, c2, c3, c4, c5, c6⟩ | ⟨c5, c6⟩
      · refine Or.inl ⟨v0, v1, v2, j2, by omega, c2, a3, a4, b3, b4, c3, c4, fun X_d q => ?_, fun num => ?_⟩
        · rw [a5, show FR + 3 = FR + 2 + 1 from rfl, b5, show FR + 2 = FR + 1 + 1 from rfl, c5, q_X5_readItem_16.eq_2, if_pos (show nI 3 ≤ nI (0 + 1 + 1 + 1) by decide), if_neg (show ¬ nI 3 = 0 by decide)]
        · rw [a6, show FR + 3 = FR + 2 + 1 from rfl, b6, show FR + 2 = FR + 1 + 1 from rfl, c6, q_X7_numbers_2.eq_2, if_pos (show nI 3 ≤ nI (0 + 1 + 1 + 1) by decide)]
      · refine Or.inr ⟨fun X_d q => ⟨upd (upd X_d 0 v0) (0 + 1) v1, ?_⟩, fun num => ?_⟩
        · rw [a5, show FR + 3 = FR + 2 + 1 from rfl, b5, show FR + 2 = FR + 1 + 1 from rfl, c5]
        · rw [a6, show FR + 3 = FR + 2 + 1 from rfl, b6, show FR + 2 = FR + 1 + 1 from rfl]
          obtain ⟨sp, q⟩ := c6 (FR + 1) (upd (upd num 0 v0) (0 + 1) v1)
          exact ⟨sp, _, q⟩
    · refine Or.inr ⟨fun X_d q => ⟨upd X_d 0 v0, ?_⟩, fun num => ?_⟩
      · rw [a5, show FR + 3 = FR + 2 + 1 from rfl, b5]
      · rw [a6, show FR + 3 = FR + 2 + 1 from rfl]
        obtain ⟨sp, q⟩ := b6 (FR + 2) (upd num 0 v0)
        exact ⟨sp, _, q⟩
  · refine Or.inr ⟨fun X_d q => ⟨_, a5 _ X_d q⟩, fun num => ?_⟩
    obtain ⟨sp, q⟩ := a6 (FR + 3) num
    exact ⟨sp, _, q⟩
end
