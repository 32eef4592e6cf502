/-! what the class's data and the reference's are to each other; the plain questions -/
theorem z1 {α : Type} {A B : α} : (if (0 : Int32) = 0 then A else B) = A := if_pos rfl
theorem z0 {α : Type} {A B : α} : (if (1 : Int32) = 0 then A else B) = B := if_neg (by decide)
theorem bsome2 {α β γ : Type} {a : α} {b : β} {k : α → β → Option γ} : ((some (a, b)).bind fun (x, y) => k x y) = k a b := rfl
theorem in_yes {x y z : Int64} (h1 : y.toInt ≤ x.toInt) (h2 : x.toInt ≤ z.toInt) : p_X7_in x y z = some 1 := by
  unfold p_X7_in lg_cmp
  have g1 : ¬ ((if x > y then (1 : Int32) else if x = y then 0 else -1) < 0) := by
    by_cases c : x > y
    · rw [if_pos c]; decide
    · have c' : ¬ y.toInt < x.toInt := fun q => c (Int64.lt_iff_toInt_lt.mpr q)
      rw [if_neg c, if_pos (Int64.toInt_inj.mp (by omega))]; decide
  have g2 : ¬ (0 < (if x > z then (1 : Int32) else if x = z then 0 else -1)) := by
    have c : ¬ x > z := fun q => by have := Int64.lt_iff_toInt_lt.mp q; omega
    rw [if_neg c]
    by_cases c2 : x = z
    · rw [if_pos c2]; decide
    · rw [if_neg c2]; decide
  rw [if_neg g1, if_neg g2]
theorem in_no {x y z : Int64} (h : x.toInt < y.toInt ∨ z.toInt < x.toInt) : p_X7_in x y z = some 0 := by
  unfold p_X7_in lg_cmp
  by_cases c1 : x.toInt < y.toInt
  · have g1 : (if x > y then (1 : Int32) else if x = y then 0 else -1) < 0 := by
      rw [if_neg (fun q => by have := Int64.lt_iff_toInt_lt.mp q; omega), if_neg (fun q => by rw [q] at c1; omega)]; decide
    rw [if_pos g1]
  · have c2 : z.toInt < x.toInt := h.resolve_left c1
    have g2 : 0 < (if x > z then (1 : Int32) else if x = z then 0 else -1) := by
      rw [if_pos (Int64.lt_iff_toInt_lt.mpr c2)]; decide
    rw [if_pos g2]
    exact ite_self _
theorem ii {x : Int32} {L H : Int64} {a b : Int} (hL : L.toInt = a) (hH : H.toInt = b) : (a ≤ x.toInt ∧ x.toInt ≤ b ∧ p_X7_in x.toInt64 L H = some 1) ∨ ((x.toInt < a ∨ b < x.toInt) ∧ p_X7_in x.toInt64 L H = some 0) := by
  have e := Int32.toInt_toInt64 x
  by_cases h : a ≤ x.toInt ∧ x.toInt ≤ b
  · exact Or.inl ⟨h.1, h.2, in_yes (by rw [e]; omega) (by rw [e]; omega)⟩
  · exact Or.inr ⟨by omega, in_no (by rw [e]; omega)⟩
theorem bz0 : bz 0 = some 0 := rfl
theorem bz1 : bz 1 = some 1 := rfl
theorem lvC {n : Nat} (hn : n ≤ 10) (a : Int32) : (p_X6_isLevel (nI n) a = some 0 ∧ p_X7_isLevel (nI n) a = some 0) ∨ ∃ k, k < n ∧ a = nI k ∧ p_X6_isLevel (nI n) a = some 1 ∧ p_X7_isLevel (nI n) a = some 1 := by
  have e1 : ((nI n - 1 : Int32).toInt64).toInt = (n : Int) - 1 := by
    rw [Int32.toInt_toInt64, tsub (by rw [tnI (by omega), tlit1]; omega) (by rw [tnI (by omega), tlit1]; omega), tnI (by omega), tlit1]
  have e0 : (0 : Int64).toInt = 0 := rfl
  have en := tnI (show n < 2147483648 by omega)
  unfold p_X6_isLevel p_X7_isLevel
  rcases ii (x := a) e0 e1 with ⟨h1, h2, h3⟩ | ⟨h1, h3⟩
  · obtain ⟨k1, k2, -⟩ := isI (n := n) h1 (by omega)
    refine Or.inr ⟨a.toNatClampNeg, k2, k1, ?_, by rw [h3]; rfl⟩
    rw [if_neg (fun q => by have := tlt.mp q; rw [tlit0] at this; omega), if_neg (fun q => by have := tle.mp q; omega)]
  · refine Or.inl ⟨?_, by rw [h3]; rfl⟩
    by_cases c : a < 0
    · rw [if_pos c]
    · have c' : ¬ a.toInt < 0 := fun q => c (tlt.mpr q)
      rw [if_neg c, if_pos (tle.mpr (by omega))]
theorem kC (a : Int32) : (p_X6_isK a = some 0 ∧ p_X7_isAdd a = some 0) ∨ (-9 ≤ a.toInt ∧ a.toInt ≤ 9 ∧ p_X6_isK a = some 1 ∧ p_X7_isAdd a = some 1) := by
  have e0 : (-9 : Int64).toInt = -9 := by decide
  have e1 : (9 : Int64).toInt = 9 := by decide
  have t9 : (9 : Int32).toInt = 9 := by decide
  have t9' : (-9 : Int32).toInt = -9 := by decide
  unfold p_X6_isK p_X7_isAdd
  rcases ii (x := a) e0 e1 with ⟨h1, h2, h3⟩ | ⟨h1, h3⟩
  · refine Or.inr ⟨h1, h2, ?_, by rw [h3]; rfl⟩
    rw [if_neg (fun q => by have := tlt.mp q; omega), if_neg (fun q => by have := tlt.mp q; omega)]
  · refine Or.inl ⟨?_, by rw [h3]; rfl⟩
    by_cases c : a < -9
    · rw [if_pos c]
    · have c' : ¬ a.toInt < -9 := fun q => c (tlt.mpr (by omega))
      rw [if_neg c, if_pos (tlt.mpr (by omega))]
theorem xC (a : Int32) : (p_X6_isX a = some 0 ∧ p_X7_in a.toInt64 0 99 = some 0) ∨ (0 ≤ a.toInt ∧ a.toInt ≤ 99 ∧ p_X6_isX a = some 1 ∧ p_X7_in a.toInt64 0 99 = some 1) := by
  have e0 : (0 : Int64).toInt = 0 := by decide
  have e1 : (99 : Int64).toInt = 99 := by decide
  have t9 : (99 : Int32).toInt = 99 := by decide
  unfold p_X6_isX
  rcases ii (x := a) e0 e1 with ⟨h1, h2, h3⟩ | ⟨h1, h3⟩
  · refine Or.inr ⟨h1, h2, ?_, h3⟩
    rw [if_neg (fun q => by have := tlt.mp q; rw [tlit0] at this; omega), if_neg (fun q => by have := tlt.mp q; omega)]
  · refine Or.inl ⟨?_, h3⟩
    by_cases c : a < 0
    · rw [if_pos c]
    · have c' : ¬ a.toInt < 0 := fun q => c (tlt.mpr q)
      rw [if_neg c, if_pos (tlt.mpr (by omega))]
/-- kinds and bounds, here and there -/
def SM (n m : Nat) (k f t w : Nat → Int32) (row : Nat → Int32) : Prop := row 10 = nI m ∧ (∀ i, i < n → k i = row i ∧ 0 ≤ (k i).toInt ∧ (k i).toInt ≤ 3) ∧ (∀ i, i < m → f i = row (11 + i) ∧ t i = row (27 + i) ∧ w i = row (43 + i)) ∧ gOK n m f t w ∧ NPC (Ed f t w m 0)
def LG (n m : Nat) (f t w : Nat → Int32) (G : Nat → Nat → Int32) : Prop := ∀ u, u < n → Row (Ed f t w m 0) (G u) u
def GM (n : Nat) (G : Nat → Nat → Int32) (R : Nat → Int32) : Prop := ∀ u v, u < n → v < n → (G u v = -1000000 ∧ R (10 * u + v) = -100000) ∨ (G u v = R (10 * u + v) ∧ -100 ≤ (G u v).toInt ∧ (G u v).toInt ≤ 100)
theorem Ed_eq {f t w f' t' w' : Nat → Int32} {m : Nat} (h : ∀ i, i < m → f i = f' i ∧ t i = t' i ∧ w i = w' i) (a : Int32) : Ed f t w m a = Ed f' t' w' m a := by
  funext x y d
  refine propext ⟨fun ⟨b, h1, h2, h3, h4, h5⟩ => ?_, fun ⟨b, h1, h2, h3, h4, h5⟩ => ?_⟩
  · obtain ⟨g1, g2, g3⟩ := h b h1
    exact ⟨b, h1, h2, by rw [← g1]; exact h3, by rw [← g2]; exact h4, by rw [← g3]; exact h5⟩
  · obtain ⟨g1, g2, g3⟩ := h b h1
    exact ⟨b, h1, h2, by rw [g1]; exact h3, by rw [g2]; exact h4, by rw [g3]; exact h5⟩
theorem gOK.congr {n m : Nat} {f t w f' t' w' : Nat → Int32} (h : ∀ i, i < m → f i = f' i ∧ t i = t' i ∧ w i = w' i) (hg : gOK n m f t w) : gOK n m f' t' w' := ⟨hg.1, hg.2.1, fun b hb => by
  obtain ⟨g1, g2, g3⟩ := h b hb
  rw [← g1, ← g2, ← g3]
  exact hg.2.2 b hb⟩
theorem SM.mE {n m : Nat} {k f t w row : Nat → Int32} (h : SM n m k f t w row) (a : Int32) : mE row m a = Ed f t w m a := (Ed_eq (fun i hi => h.2.2.1 i hi) a).symm
theorem SM.mg {n m : Nat} {k f t w row : Nat → Int32} (h : SM n m k f t w row) : gOK n m (mF row) (mT row) (mW row) := h.2.2.2.1.congr (fun i hi => h.2.2.1 i hi)
theorem SM.n10 {n m : Nat} {k f t w row : Nat → Int32} (h : SM n m k f t w row) : n ≤ 10 := h.2.2.2.1.1
theorem SM.m16 {n m : Nat} {k f t w row : Nat → Int32} (h : SM n m k f t w row) : m ≤ 16 := h.2.2.2.1.2.1
theorem gm_of {n m : Nat} {f t w : Nat → Int32} {G : Nat → Nat → Int32} {R : Nat → Int32} (hg : gOK n m f t w) (hN : NPC (Ed f t w m 0)) (hL : LG n m f t w G) (hR : RcOK (Ed f t w m 0) n R) : GM n G R := by
  intro u v hu hv
  have hn := hg.1
  rcases hL u hu v (by omega) with ⟨d, h1, h2⟩ | ⟨h1, h2⟩
  · rcases hR u v hu hv with ⟨e, h3, h4⟩ | ⟨h3, -⟩
    · have := h1.uniq h3
      have hb := h1.bd (hg.inV 0) hN (hg.ten 0) hn hu
      exact Or.inr ⟨teq.mpr (by omega), by omega, by omega⟩
    · exact (h1.not h3).elim
  · rcases hR u v hu hv with ⟨e, h3, h4⟩ | ⟨-, h4⟩
    · exact (h3.not h1).elim
    · exact Or.inl ⟨h2, h4⟩
theorem SM.find {n m : Nat} {k f t w row : Nat → Int32} {G : Nat → Nat → Int32} (h : SM n m k f t w row) (hL : LG n m f t w G) (R0 e0 : Nat → Int32) : ∃ R e, p_X7_find (nI n) row R0 e0 = some (R, e) ∧ GM n G R ∧ RcOK (Ed f t w m 0) n R ∧ EdOK (Ed f t w m 0) e := by
  obtain ⟨R, e, h1, h2, h3⟩ := fw_find h.mg h.1 (by rw [h.mE 0]; exact h.2.2.2.2) R0 e0
  rw [h.mE 0] at h2 h3
  exact ⟨R, e, h1, gm_of h.2.2.2.1 h.2.2.2.2 hL h2, h2, h3⟩
/-- measuring anew -/
theorem ms_loop {n m : Nat} {f t w : Nat → Int32} (hg : gOK n m f t w) (hN : NPC (Ed f t w m 0)) : ∀ (r u fuel : Nat) (G : Nat → Nat → Int32), u + r = n → r < fuel → (∀ x, x < u → Row (Ed f t w m 0) (G x) x) → ∃ G', q_X1_measure_10 f t w (nI n) (nI m) fuel (nI u) G (nI n) = some (G', nI n) ∧ LG n m f t w G'
  | r, u, 0, G, _, hf, _ => absurd hf (Nat.not_lt_zero _)
  | 0, u, fuel + 1, G, hu, _, h => by
    have hn := hg.1
    rw [q_X1_measure_10.eq_2, if_pos ((nIle (by omega) (by omega)).mpr (by omega))]
    exact ⟨G, rfl, fun x hx => h x (by omega)⟩
  | r + 1, u, fuel + 1, G, hu, hf, h => by
    have hn := hg.1
    obtain ⟨o, e1, e2⟩ := bf_ok hg hN (show u < n by omega) (G u)
    rw [q_X1_measure_10.eq_2, if_neg (fun q => absurd ((nIle (by omega) (by omega)).mp q) (by omega)), ix_nI (by omega) (by omega), bsome, e1, bsome, nI1]
    refine ms_loop hg hN r (u + 1) fuel _ (by omega) (by omega) (fun x hx => ?_)
    by_cases hc : x = u
    · subst hc; rw [va_up_self]; exact e2
    · rw [va_up_ne _ _ hc]; exact h x (by omega)
theorem ms_ok {n m : Nat} {f t w : Nat → Int32} (hg : gOK n m f t w) (hN : NPC (Ed f t w m 0)) (G : Nat → Nat → Int32) (l : Int32) : ∃ G', p_X1_measure f t w (nI n) (nI m) G l = some (G', nI n) ∧ LG n m f t w G' := by
  unfold p_X1_measure
  exact ms_loop hg hN n 0 FU G (by omega) (by have := hg.1; unfold FU; omega) (fun x hx => absurd hx (Nat.not_lt_zero x))
/-- reading the tables -/
theorem leadsC {n : Nat} {G : Nat → Nat → Int32} {R : Nat → Int32} (hn : n ≤ 10) (h : GM n G R) {u v : Nat} (hu : u < n) (hv : v < n) : (G u v = -1000000 ∧ p_X1_leads G (nI u) (nI v) = some 0 ∧ rd R 100 (10 * nI u + nI v) = some (R (10 * u + v)) ∧ p_X7_isWay (R (10 * u + v)) = some 0) ∨ (G u v = R (10 * u + v) ∧ -100 ≤ (R (10 * u + v)).toInt ∧ (R (10 * u + v)).toInt ≤ 100 ∧ p_X1_leads G (nI u) (nI v) = some 1 ∧ rd R 100 (10 * nI u + nI v) = some (R (10 * u + v)) ∧ p_X7_isWay (R (10 * u + v)) = some 1) := by
  have e1 : rd R 100 (10 * nI u + nI v) = some (R (10 * u + v)) := by rw [ten, rd_nI (by omega) (by omega)]
  unfold p_X1_leads
  rw [ix_nI (by omega) (by omega), bsome, rd_nI (by omega) (by omega), bsome]
  rcases h u v hu hv with ⟨h1, h2⟩ | ⟨h1, h2, h3⟩
  · rw [if_pos h1]
    exact Or.inl ⟨h1, rfl, e1, isWay_no (by rw [h2, tFAR]; omega)⟩
  · rw [if_neg (fun q => by rw [q, tNW] at h2; omega)]
    rw [h1] at h2 h3
    exact Or.inr ⟨h1, h2, h3, rfl, e1, isWay_yes (by omega)⟩
theorem soC {n : Nat} {G : Nat → Nat → Int32} {R : Nat → Int32} (hn : n ≤ 10) (h : GM n G R) {u v : Nat} (hu : u < n) (hv : v < n) (k : Int32) : ∃ r, (r = 0 ∨ r = 1) ∧ p_X1_implies G (nI u) k (nI v) = some r ∧ p_X7_isSo R (nI u) k (nI v) = some r := by
  unfold p_X1_implies p_X7_isSo
  rcases leadsC hn h hu hv with ⟨h1, h2, h3, h4⟩ | ⟨h1, h2, h3, h4, h5, h6⟩
  · rw [h2, h3, bsome, bsome, h4, bsome, z1, z1]
    exact ⟨0, Or.inl rfl, rfl, rfl⟩
  · rw [h4, h5, bsome, bsome, h6, bsome, z0, z0, ix_nI (by omega) (by omega), bsome, rd_nI (by omega) (by omega), bsome, bsome, h1]
    by_cases c : R (10 * u + v) < k
    · rw [if_pos c]; exact ⟨0, Or.inl rfl, rfl, rfl⟩
    · rw [if_neg c]; exact ⟨1, Or.inr rfl, rfl, rfl⟩
theorem val_loop {n : Nat} {G : Nat → Nat → Int32} {R : Nat → Int32} (hn : n ≤ 10) (h : GM n G R) {v : Nat} (hv : v < n) : ∀ (r u fuel : Nat) (x : Int32), u + r = n → r < fuel → 0 ≤ x.toInt → x.toInt ≤ 100 → ∃ y, q_X1_valueOf_4 G (nI n) (nI v) fuel (nI u) x = some y ∧ q_X7_valueOf_4 (nI n) R (nI v) fuel (nI u) x = some y ∧ 0 ≤ y.toInt ∧ y.toInt ≤ 100
  | r, u, 0, x, _, hf, _, _ => absurd hf (Nat.not_lt_zero _)
  | 0, u, fuel + 1, x, hu, _, h1, h2 => by
    rw [q_X1_valueOf_4.eq_2, q_X7_valueOf_4.eq_2, if_pos ((nIle (by omega) (by omega)).mpr (by omega)), if_pos ((nIle (by omega) (by omega)).mpr (by omega))]
    exact ⟨x, rfl, rfl, h1, h2⟩
  | r + 1, u, fuel + 1, x, hu, hf, h1, h2 => by
    rw [q_X1_valueOf_4.eq_2, q_X7_valueOf_4.eq_2, if_neg (fun q => absurd ((nIle (by omega) (by omega)).mp q) (by omega)), if_neg (fun q => absurd ((nIle (by omega) (by omega)).mp q) (by omega)), ix_nI (by omega) (by omega), bsome, rd_nI (by omega) (by omega), bsome, ten, rd_nI (by omega) (by omega), bsome, nI1, bsome]
    rcases h u v (by omega) hv with ⟨g1, g2⟩ | ⟨g1, g2, g3⟩
    · rw [g1, g2, if_neg (fun q => by have := tlt.mp q; rw [tNW] at this; omega), if_pos (tle.mpr (by rw [tFAR]; omega))]
      exact val_loop hn h hv r (u + 1) fuel x (by omega) (by omega) h1 h2
    · rw [g1] at g2 g3
      rw [g1]
      by_cases c : x < R (10 * u + v)
      · rw [if_pos c, if_neg (fun q => by have := tle.mp q; have := tlt.mp c; omega)]
        have := tlt.mp c
        exact val_loop hn h hv r (u + 1) fuel _ (by omega) (by omega) (by omega) g3
      · have c' : ¬ x.toInt < (R (10 * u + v)).toInt := fun q => c (tlt.mpr q)
        rw [if_neg c, if_pos (tle.mpr (by omega))]
        exact val_loop hn h hv r (u + 1) fuel x (by omega) (by omega) h1 h2
theorem valC {n : Nat} {G : Nat → Nat → Int32} {R : Nat → Int32} (hn : n ≤ 10) (h : GM n G R) {v : Nat} (hv : v < n) : ∃ y, p_X1_valueOf G (nI n) (nI v) = some y ∧ p_X7_valueOf (nI n) R (nI v) = some y ∧ 0 ≤ y.toInt ∧ y.toInt ≤ 100 := by
  unfold p_X1_valueOf p_X7_valueOf
  exact val_loop hn h hv n 0 FU 0 (by omega) (by unfold FU; omega) (by decide) (by decide)
theorem floatC {n m : Nat} {k f t w row : Nat → Int32} (h : SM n m k f t w row) {u : Nat} (hu : u < n) : ∃ r, (r = 0 ∨ r = 1) ∧ p_X4_isFloating k (nI u) = some r ∧ p_X7_isFloating row (nI u) = some r := by
  have hn := h.n10
  unfold p_X4_isFloating p_X7_isFloating
  rw [rd_nI (by omega) (by omega), bsome, rd_nI (by omega) (by omega), bsome, bsome, bsome, (h.2.1 u hu).1]
  by_cases c1 : row u = 1
  · rw [if_pos c1]; exact ⟨1, Or.inr rfl, rfl, rfl⟩
  · rw [if_neg c1]
    by_cases c3 : row u = 3
    · rw [if_pos c3]; exact ⟨1, Or.inr rfl, rfl, rfl⟩
    · rw [if_neg c3]; exact ⟨0, Or.inl rfl, rfl, rfl⟩
