/-! the reference's search: findBut gives the longest ways -/
def Wr (E : Nat → Nat → Int → Prop) (M : Nat) : Nat → Nat → Nat → Int → Prop
  | 0, u, v, d => u = v ∧ d = 0
  | k + 1, u, v, d => ∃ (y : Nat) (d1 : Int), E u y d1 ∧ (k = 0 ∨ y < M) ∧ Wr E M k y v (d - d1)
theorem Wr.wk {E : Nat → Nat → Int → Prop} {M : Nat} : ∀ {k u v : Nat} {d : Int}, Wr E M k u v d → Wk E k u v d
  | 0, _, _, _, h => h
  | k + 1, _, _, _, h => by
    obtain ⟨y, d1, h1, -, h3⟩ := h
    exact ⟨y, d1, h1, Wr.wk h3⟩
theorem Wk.wr {E : Nat → Nat → Int → Prop} {n : Nat} (hV : InV E n) : ∀ {k u v : Nat} {d : Int}, Wk E k u v d → Wr E n k u v d
  | 0, _, _, _, h => h
  | k + 1, _, _, _, h => by
    obtain ⟨y, d1, h1, h3⟩ := h
    exact ⟨y, d1, h1, Or.inr (hV _ _ _ h1).2, Wk.wr hV h3⟩
theorem Wr.split {E : Nat → Nat → Int → Prop} {M : Nat} : ∀ {k u v : Nat} {d : Int}, Wr E (M + 1) k u v d → (∃ j, Wr E M j u v d) ∨ ∃ (j1 j2 j3 : Nat) (d1 d2 d3 : Int), Wr E M j1 u M d1 ∧ Wk E j2 M M d2 ∧ Wr E M j3 M v d3 ∧ d = d1 + d2 + d3
  | 0, _, _, _, h => Or.inl ⟨0, h⟩
  | k + 1, u, v, d, h => by
    obtain ⟨y, d1, h1, h2, h3⟩ := h
    rcases h2 with rfl | h2
    · exact Or.inl ⟨1, y, d1, h1, Or.inl rfl, h3⟩
    · rcases Nat.lt_or_ge y M with hy | hy
      · rcases Wr.split h3 with ⟨j, h4⟩ | ⟨j1, j2, j3, e1, e2, e3, g1, g2, g3, g4⟩
        · exact Or.inl ⟨j + 1, y, d1, h1, Or.inr hy, h4⟩
        · refine Or.inr ⟨j1 + 1, j2, j3, d1 + e1, e2, e3, ⟨y, d1, h1, Or.inr hy, ?_⟩, g2, g3, by omega⟩
          rw [show d1 + e1 - d1 = e1 by omega]
          exact g1
      · obtain rfl : y = M := by omega
        rcases Wr.split h3 with ⟨j, h4⟩ | ⟨j1, j2, j3, e1, e2, e3, g1, g2, g3, g4⟩
        · exact Or.inr ⟨1, 0, j, d1, 0, d - d1, ⟨y, d1, h1, Or.inl rfl, rfl, by omega⟩, ⟨rfl, rfl⟩, h4, by omega⟩
        · exact Or.inr ⟨1, j1 + j2, j3, d1, e1 + e2, e3, ⟨y, d1, h1, Or.inl rfl, rfl, by omega⟩, g1.wk.cat g2, g3, by omega⟩
theorem ten (i j : Nat) : (10 : Int32) * nI i + nI j = nI (10 * i + j) := by
  show nI 10 * nI i + nI j = _
  rw [pk_mul, nI_add]
theorem pl11 (b : Nat) : (11 : Int32) + nI b = nI (11 + b) := nI_add 11 b
theorem pl27 (b : Nat) : (27 : Int32) + nI b = nI (27 + b) := nI_add 27 b
theorem pl43 (b : Nat) : (43 : Int32) + nI b = nI (43 + b) := nI_add 43 b
theorem and1 (x : Int32) : x &&& 1 = 0 ∨ x &&& 1 = 1 := by
  obtain ⟨j, hj, e⟩ := pk_andE x (m := 1) 1 (by decide)
  rcases (show j = 0 ∨ j = 1 by omega) with rfl | rfl
  · exact Or.inl e
  · exact Or.inr e
theorem has_no {a : Int32} {b : Nat} (h : ¬ bitB a b) : p_X7_has a (nI b) = some 0 := by
  have h := Classical.not_not.mp h
  unfold p_X7_has
  rw [h]
  rfl
theorem has_yes {a : Int32} {b : Nat} (h : bitB a b) : p_X7_has a (nI b) = some 1 := by
  unfold p_X7_has
  rw [(and1 _).resolve_left h]
  rfl
theorem isWay_no {x : Int32} (h : x.toInt ≤ -50000) : p_X7_isWay x = some 0 := by
  unfold p_X7_isWay
  rw [if_pos (tle.mpr (by rw [show ((-50000 : Int32)).toInt = -50000 by decide]; exact h))]
theorem isWay_yes {x : Int32} (h : -50000 < x.toInt) : p_X7_isWay x = some 1 := by
  unfold p_X7_isWay
  rw [if_neg (fun q => by have := tle.mp q; rw [show ((-50000 : Int32)).toInt = -50000 by decide] at this; omega)]
/-- the reference's row of kinds and bounds -/
def mF (now : Nat → Int32) : Nat → Int32 := fun b => now (11 + b)
def mT (now : Nat → Int32) : Nat → Int32 := fun b => now (27 + b)
def mW (now : Nat → Int32) : Nat → Int32 := fun b => now (43 + b)
def mE (now : Nat → Int32) (m : Nat) (a : Int32) : Nat → Nat → Int → Prop := Ed (mF now) (mT now) (mW now) m a
theorem fw_clear (lv : Int32) (now : Nat → Int32) (a : Int32) (R : Nat → Int32) : ∀ (r i fuel : Nat) (e : Nat → Int32), i + r = 100 → r < fuel → (∀ k, k < i → e k = -100000) → ∃ e', q_X7_findBut_2 lv now a fuel (nI i) R e = q_X7_findBut_24 lv now a FU 0 R e' ∧ ∀ k, k < 100 → e' k = -100000
  | r, i, 0, e, _, hf, _ => absurd hf (Nat.not_lt_zero _)
  | 0, i, fuel + 1, e, hi, _, he => by
    rw [q_X7_findBut_2.eq_2, if_pos (show (100 : Int32) ≤ nI i from (nIle (a := 100) (by omega) (by omega)).mpr (by omega))]
    exact ⟨e, rfl, fun k hk => he k (by omega)⟩
  | r + 1, i, fuel + 1, e, hi, hf, he => by
    rw [q_X7_findBut_2.eq_2, if_neg (show ¬ (100 : Int32) ≤ nI i from fun q => absurd ((nIle (a := 100) (by omega) (by omega)).mp q) (by omega)), wr_nI (by omega) (by omega), bsome, nI1]
    refine fw_clear lv now a R r (i + 1) fuel _ (by omega) (by omega) (fun k hk => ?_)
    by_cases hc : k = i
    · rw [hc, updS]
    · rw [updN hc]; exact he k (by omega)
def EdOK (E : Nat → Nat → Int → Prop) (e : Nat → Int32) : Prop := ∀ x y, x < 10 → y < 10 → (∃ d, E x y d ∧ (∀ d', E x y d' → d' ≤ d) ∧ (e (10 * x + y)).toInt = d) ∨ ((∀ d, ¬ E x y d) ∧ e (10 * x + y) = -100000)
theorem fw_edges {n m : Nat} {lv : Int32} {now : Nat → Int32} {a : Int32} (hg : gOK n m (mF now) (mT now) (mW now)) (hm10 : now 10 = nI m) (R : Nat → Int32) : ∀ (r b fuel : Nat) (e : Nat → Int32), b + r = m → r < fuel → EdOK (mE now b a) e → ∃ e', q_X7_findBut_24 lv now a fuel (nI b) R e = q_X7_findBut_116 lv now a FU 0 R e' ∧ EdOK (mE now m a) e'
  | r, b, 0, e, _, hf, _ => absurd hf (Nat.not_lt_zero _)
  | 0, b, fuel + 1, e, hb, _, he => by
    have hm := hg.2.1
    rw [q_X7_findBut_24.eq_2, show (10 : Int32) = nI 10 from rfl, rd_nI (by omega) (by omega), bsome, hm10, if_pos ((nIle (by omega) (by omega)).mpr (by omega))]
    obtain rfl : b = m := by omega
    exact ⟨e, rfl, he⟩
  | r + 1, b, fuel + 1, e, hb, hf, he => by
    have hm := hg.2.1
    have hn := hg.1
    obtain ⟨h1, h2, h3, h4, h5, h6⟩ := hg.at (show b < m by omega)
    have hx : now (11 + b) = nI (mF now b).toNatClampNeg := h1
    have hy : now (27 + b) = nI (mT now b).toNatClampNeg := h3
    generalize hX : (mF now b).toNatClampNeg = X at h2 hx
    generalize hY : (mT now b).toNatClampNeg = Y at h4 hy
    have hw5 : -10 ≤ (now (43 + b)).toInt := h5
    have hw6 : (now (43 + b)).toInt ≤ 10 := h6
    rw [q_X7_findBut_24.eq_2, show rd now 59 10 = some (nI m) from by rw [show (10 : Int32) = nI 10 from rfl, rd_nI (by omega) (by omega), hm10], bsome, if_neg (fun q => absurd ((nIle (by omega) (by omega)).mp q) (by omega)), pl11, rd_nI (by omega) (by omega), bsome, pl27, rd_nI (by omega) (by omega), bsome, hx, hy, ten]
    have keep : bitB a b ∨ (mW now b).toInt ≤ (e (10 * X + Y)).toInt → q_X7_findBut_101 lv now a (q_X7_findBut_24 lv now a fuel) (nI (10 * X + Y)) (nI b) (nI (10 * X + Y)) R e = q_X7_findBut_24 lv now a fuel (nI (b + 1)) R e := fun _ => by
      unfold q_X7_findBut_101
      rw [rd_nI (by omega) (by omega), bsome, wr_nI (by omega) (by omega), bsome, nI1, show upd e (10 * X + Y) (e (10 * X + Y)) = e from funext fun k => by by_cases hc : k = 10 * X + Y <;> simp [upd, hc]]
    have grow : ∀ x y d, mE now b a x y d → mE now (b + 1) a x y d := by
      rintro x y d ⟨b', g1, g2⟩
      exact ⟨b', by omega, g2⟩
    have shrink : ∀ x y d, mE now (b + 1) a x y d → mE now b a x y d ∨ (¬ bitB a b ∧ x = X ∧ y = Y ∧ d = (mW now b).toInt) := by
      rintro x y d ⟨b', g1, g2, g3, g4, g5⟩
      by_cases hc : b' = b
      · subst hc
        exact Or.inr ⟨g2, by rw [← g3, hX], by rw [← g4, hY], g5.symm⟩
      · exact Or.inl ⟨b', by omega, g2, g3, g4, g5⟩
    by_cases ha : bitB a b
    · rw [has_yes ha, bsome, if_neg (by decide), keep (Or.inl ha)]
      refine fw_edges hg hm10 R r (b + 1) fuel e (by omega) (by omega) (fun x y hx hy => ?_)
      rcases he x y hx hy with ⟨d, g1, g2, g3⟩ | ⟨g1, g2⟩
      · exact Or.inl ⟨d, grow _ _ _ g1, fun d' hd => by
          rcases shrink _ _ _ hd with q | ⟨q, -⟩
          · exact g2 d' q
          · exact absurd ha q, g3⟩
      · exact Or.inr ⟨fun d hd => by
          rcases shrink _ _ _ hd with q | ⟨q, -⟩
          · exact g1 d q
          · exact absurd ha q, g2⟩
    · rw [has_no ha, bsome, if_pos rfl, pl43, rd_nI (by omega) (by omega), bsome, rd_nI (by omega) (by omega), bsome]
      have mine : mE now (b + 1) a X Y (mW now b).toInt := ⟨b, by omega, ha, hX, hY, rfl⟩
      by_cases hc : now (43 + b) ≤ e (10 * X + Y)
      · have hc' : (mW now b).toInt ≤ (e (10 * X + Y)).toInt := tle.mp hc
        rw [if_pos hc, keep (Or.inr hc')]
        refine fw_edges hg hm10 R r (b + 1) fuel e (by omega) (by omega) (fun x y hx hy => ?_)
        rcases he x y hx hy with ⟨d, g1, g2, g3⟩ | ⟨g1, g2⟩
        · exact Or.inl ⟨d, grow _ _ _ g1, fun d' hd => by
            rcases shrink _ _ _ hd with q | ⟨-, rfl, rfl, rfl⟩
            · exact g2 d' q
            · rw [g3] at hc'; exact hc', g3⟩
        · exact Or.inr ⟨fun d hd => by
            rcases shrink _ _ _ hd with q | ⟨-, rfl, rfl, rfl⟩
            · exact g1 d q
            · rw [g2, tFAR] at hc'
              have : (mW now b).toInt = (now (43 + b)).toInt := rfl
              omega, g2⟩
      · have hc' : ¬ (mW now b).toInt ≤ (e (10 * X + Y)).toInt := fun q => hc (tle.mpr q)
        rw [if_neg hc, bsome, wr_nI (by omega) (by omega), bsome, nI1]
        refine fw_edges hg hm10 R r (b + 1) fuel _ (by omega) (by omega) (fun x y hx9 hy9 => ?_)
        by_cases hxy : x = X ∧ y = Y
        · obtain ⟨rfl, rfl⟩ := hxy
          rw [updS]
          refine Or.inl ⟨_, mine, fun d' hd => ?_, rfl⟩
          rcases shrink _ _ _ hd with q | ⟨-, -, -, rfl⟩
          · rcases he x y hx9 hy9 with ⟨d, g1, g2, g3⟩ | ⟨g1, g2⟩
            · have := g2 d' q
              omega
            · exact absurd q (g1 d')
          · exact Int.le_refl _
        · rw [updN (show 10 * x + y ≠ 10 * X + Y by omega)]
          have sh : ∀ d, mE now (b + 1) a x y d → mE now b a x y d := fun d hd => by
            rcases shrink _ _ _ hd with q | ⟨-, e1, e2, -⟩
            · exact q
            · exact absurd ⟨e1, e2⟩ hxy
          rcases he x y hx9 hy9 with ⟨d, g1, g2, g3⟩ | ⟨g1, g2⟩
          · exact Or.inl ⟨d, grow _ _ _ g1, fun d' hd => g2 d' (sh d' hd), g3⟩
          · exact Or.inr ⟨fun d hd => g1 d (sh d hd), g2⟩
theorem fw_init (lv : Int32) (now : Nat → Int32) (a : Int32) (e : Nat → Int32) : ∀ (r i fuel : Nat) (R : Nat → Int32), i + r = 100 → r < fuel → (∀ k, k < i → R k = if k % 11 = 0 ∧ (e k).toInt < 0 then 0 else e k) → ∃ R', q_X7_findBut_116 lv now a fuel (nI i) R e = q_X7_findBut_162 lv now a FU 0 R' e ∧ ∀ k, k < 100 → R' k = if k % 11 = 0 ∧ (e k).toInt < 0 then 0 else e k
  | r, i, 0, R, _, hf, _ => absurd hf (Nat.not_lt_zero _)
  | 0, i, fuel + 1, R, hi, _, hR => by
    rw [q_X7_findBut_116.eq_2, if_pos (show (100 : Int32) ≤ nI i from (nIle (a := 100) (by omega) (by omega)).mpr (by omega))]
    exact ⟨R, rfl, fun k hk => hR k (by omega)⟩
  | r + 1, i, fuel + 1, R, hi, hf, hR => by
    have keep : q_X7_findBut_147 lv now a (q_X7_findBut_116 lv now a fuel) (nI i) (nI i) R e = q_X7_findBut_116 lv now a fuel (nI (i + 1)) (upd R i (e i)) e := by
      unfold q_X7_findBut_147
      rw [rd_nI (by omega) (by omega), bsome, wr_nI (by omega) (by omega), bsome, nI1]
    have rest : ∀ x : Int32, x = (if i % 11 = 0 ∧ (e i).toInt < 0 then 0 else e i) → ∃ R', q_X7_findBut_116 lv now a fuel (nI (i + 1)) (upd R i x) e = q_X7_findBut_162 lv now a FU 0 R' e ∧ ∀ k, k < 100 → R' k = if k % 11 = 0 ∧ (e k).toInt < 0 then 0 else e k := fun x hx => by
      refine fw_init lv now a e r (i + 1) fuel _ (by omega) (by omega) (fun k hk => ?_)
      by_cases hc : k = i
      · rw [hc, updS]; exact hx
      · rw [updN hc]; exact hR k (by omega)
    rw [q_X7_findBut_116.eq_2, if_neg (show ¬ (100 : Int32) ≤ nI i from fun q => absurd ((nIle (a := 100) (by omega) (by omega)).mp q) (by omega)), show (11 : Int32) = nI 11 from rfl, pk_rem (by omega) (by omega) (by omega)]
    by_cases h11 : i % 11 = 0
    · rw [if_pos (show nI (i % 11) = 0 by rw [h11]; rfl), rd_nI (by omega) (by omega), bsome]
      by_cases h0 : (0 : Int32) ≤ e i
      · rw [if_pos h0, keep]
        have h0' : (0 : Int) ≤ (e i).toInt := tle.mp h0
        exact rest _ (by rw [if_neg (fun q => by omega)])
      · rw [if_neg h0, wr_nI (by omega) (by omega), bsome, nI1]
        have h0' : ¬ (0 : Int) ≤ (e i).toInt := fun q => h0 (tle.mpr q)
        exact rest _ (by rw [if_pos ⟨h11, by omega⟩])
    · rw [if_neg (show ¬ nI (i % 11) = 0 from fun q => h11 ((nI_inj (b := 0) (by omega) (by omega)).mp q)), keep]
      exact rest _ (by rw [if_neg (fun q => h11 q.1)])
/-- what holds of the square all along -/
def fS (E : Nat → Nat → Int → Prop) (B : Int) (R : Nat → Int32) : Prop := ∀ x y, x < 10 → y < 10 → R (10 * x + y) = -100000 ∨ ((∃ k, Wk E k x y (R (10 * x + y)).toInt) ∧ -B ≤ (R (10 * x + y)).toInt ∧ (R (10 * x + y)).toInt ≤ B)
/-- a turn of the middle level M: R0 at its beginning; the rows before u are done, and of u the places before v -/
def fM (n M u v : Nat) (R0 R : Nat → Int32) : Prop := (∀ x y, x < 10 → y < 10 → (R0 (10 * x + y)).toInt ≤ (R (10 * x + y)).toInt) ∧ (∀ x, x < 10 → R (10 * x + M) = R0 (10 * x + M)) ∧ (∀ y, y < 10 → R (10 * M + y) = R0 (10 * M + y)) ∧
  (∀ x y, x < n → y < n → (x < u ∨ x = u ∧ y < v) → R0 (10 * x + M) ≠ -100000 → R0 (10 * M + y) ≠ -100000 → (R0 (10 * x + M)).toInt + (R0 (10 * M + y)).toInt ≤ (R (10 * x + y)).toInt)
theorem fS.wide {E : Nat → Nat → Int → Prop} {B C : Int} {R : Nat → Int32} (h : fS E B R) (hBC : B ≤ C) : fS E C R := fun x y hx hy => by
  rcases h x y hx hy with h | ⟨h, g1, g2⟩
  · exact Or.inl h
  · exact Or.inr ⟨h, by omega, by omega⟩
theorem fw_cols {n : Nat} {E : Nat → Nat → Int → Prop} (hn : n ≤ 10) {lv : Int32} (hlv : lv = nI n) {now : Nat → Int32} {a : Int32} (k162 : Int32 → (Nat → Int32) → (Nat → Int32) → Option ((Nat → Int32) × (Nat → Int32))) (k172 : Int32 → Int32 → (Nat → Int32) → (Nat → Int32) → Option ((Nat → Int32) × (Nat → Int32)))
    {M u : Nat} (hM : M < n) (hu : u < n) (B : Int) (hB0 : 0 ≤ B) (hB : B ≤ 10240) (R0 e : Nat → Int32) (h0 : fS E B R0) (hd : R0 (10 * M + M) = 0) :
    ∀ (r v fuel : Nat) (R : Nat → Int32), v + r = n → r < fuel → fS E (2 * B) R → fM n M u v R0 R → ∃ R', q_X7_findBut_183 lv now a k162 k172 fuel (nI v) (nI u) (nI M) R e = k172 (nI (u + 1)) (nI M) R' e ∧ fS E (2 * B) R' ∧ fM n M (u + 1) 0 R0 R'
  | r, v, 0, R, _, hf, _, _ => absurd hf (Nat.not_lt_zero _)
  | 0, v, fuel + 1, R, hv, _, h1, h2 => by
    subst hlv
    rw [q_X7_findBut_183.eq_2, if_pos ((nIle (by omega) (by omega)).mpr (by omega))]
    unfold q_X7_findBut_278
    rw [nI1]
    exact ⟨R, rfl, h1, h2.1, h2.2.1, h2.2.2.1, fun x y hx hy hc => h2.2.2.2 x y hx hy (by omega)⟩
  | r + 1, v, fuel + 1, R, hv, hf, h1, h2 => by
    have go : ∀ R9 : Nat → Int32, fS E (2 * B) R9 → fM n M u (v + 1) R0 R9 → ∃ R', q_X7_findBut_183 lv now a k162 k172 fuel (nI (v + 1)) (nI u) (nI M) R9 e = k172 (nI (u + 1)) (nI M) R' e ∧ fS E (2 * B) R' ∧ fM n M (u + 1) 0 R0 R' := fun R9 g1 g2 => fw_cols hn hlv k162 k172 hM hu B hB0 hB R0 e h0 hd r (v + 1) fuel R9 (by omega) (by omega) g1 g2
    subst hlv
    have e1 := h2.2.1 u (by omega)
    have e2 := h2.2.2.1 v (by omega)
    rw [q_X7_findBut_183.eq_2, if_neg (fun q => absurd ((nIle (by omega) (by omega)).mp q) (by omega)), ten, rd_nI (by omega) (by omega), bsome, ten, rd_nI (by omega) (by omega), bsome, e1, e2, nI1]
    have skip : (R0 (10 * u + M) = -100000 ∨ R0 (10 * M + v) = -100000 ∨ (R0 (10 * u + M)).toInt + (R0 (10 * M + v)).toInt ≤ (R (10 * u + v)).toInt) → fM n M u (v + 1) R0 R := fun hs => by
      refine ⟨h2.1, h2.2.1, h2.2.2.1, fun x y hx hy hc g1 g2 => ?_⟩
      by_cases he : x = u ∧ y = v
      · obtain ⟨rfl, rfl⟩ := he
        rcases hs with hs | hs | hs
        · exact absurd hs g1
        · exact absurd hs g2
        · exact hs
      · exact h2.2.2.2 x y hx hy (by omega) g1 g2
    rcases h0 u M (by omega) (by omega) with c1 | ⟨⟨k1, c1⟩, b1, b2⟩
    · rw [isWay_no (by rw [c1, tFAR]; omega), bsome, if_pos rfl]
      exact go R h1 (skip (Or.inl c1))
    · rw [isWay_yes (by omega), bsome, if_neg (by decide)]
      rcases h0 M v (by omega) (by omega) with c2 | ⟨⟨k2, c2⟩, b3, b4⟩
      · rw [isWay_no (by rw [c2, tFAR]; omega), bsome, if_pos rfl]
        exact go R h1 (skip (Or.inr (Or.inl c2)))
      · rw [isWay_yes (by omega), bsome, if_neg (by decide), ten, rd_nI (by omega) (by omega), bsome]
        have hadd : (R0 (10 * u + M) + R0 (10 * M + v)).toInt = (R0 (10 * u + M)).toInt + (R0 (10 * M + v)).toInt := tadd (by omega) (by omega)
        by_cases hc : R0 (10 * u + M) + R0 (10 * M + v) ≤ R (10 * u + v)
        · rw [if_pos hc]
          have hc' := tle.mp hc
          exact go R h1 (skip (Or.inr (Or.inr (by omega))))
        · have hc' : ¬ (R0 (10 * u + M) + R0 (10 * M + v)).toInt ≤ (R (10 * u + v)).toInt := fun q => hc (tle.mpr q)
          rw [if_neg hc, wr_nI (by omega) (by omega), bsome]
          have hvM : v ≠ M := fun q => by
            subst q
            have := h2.2.1 u (by omega)
            rw [this] at hc'
            rw [hd] at hadd hc'
            rw [tlit0] at hadd
            omega
          have huM : u ≠ M := fun q => by
            subst q
            have := h2.2.2.1 v (by omega)
            rw [this] at hc'
            rw [hd] at hadd hc'
            rw [tlit0] at hadd
            omega
          refine go _ (fun x y hx hy => ?_) ⟨fun x y hx hy => ?_, fun x hx => ?_, fun y hy => ?_, fun x y hx hy hq g1 g2 => ?_⟩
          · by_cases he : x = u ∧ y = v
            · obtain ⟨rfl, rfl⟩ := he
              rw [updS, hadd]
              exact Or.inr ⟨⟨k1 + k2, c1.cat c2⟩, by omega, by omega⟩
            · rw [updN (show 10 * x + y ≠ 10 * u + v by omega)]
              exact h1 x y hx hy
          · by_cases he : x = u ∧ y = v
            · obtain ⟨rfl, rfl⟩ := he
              rw [updS]
              have := h2.1 x y hx hy
              omega
            · rw [updN (show 10 * x + y ≠ 10 * u + v by omega)]
              exact h2.1 x y hx hy
          · rw [updN (show 10 * x + M ≠ 10 * u + v by omega)]
            exact h2.2.1 x hx
          · rw [updN (show 10 * M + y ≠ 10 * u + v by omega)]
            exact h2.2.2.1 y hy
          · by_cases he : x = u ∧ y = v
            · obtain ⟨rfl, rfl⟩ := he
              rw [updS, hadd]
              exact Int.le_refl _
            · rw [updN (show 10 * x + y ≠ 10 * u + v by omega)]
              exact h2.2.2.2 x y hx hy (by omega) g1 g2
theorem fw_rows {n : Nat} {E : Nat → Nat → Int → Prop} (hn : n ≤ 10) {lv : Int32} (hlv : lv = nI n) {now : Nat → Int32} {a : Int32} (k162 : Int32 → (Nat → Int32) → (Nat → Int32) → Option ((Nat → Int32) × (Nat → Int32)))
    {M : Nat} (hM : M < n) (B : Int) (hB0 : 0 ≤ B) (hB : B ≤ 10240) (R0 e : Nat → Int32) (h0 : fS E B R0) (hd : R0 (10 * M + M) = 0) :
    ∀ (r u fuel : Nat) (R : Nat → Int32), u + r = n → r < fuel → fS E (2 * B) R → fM n M u 0 R0 R → ∃ R', q_X7_findBut_172 lv now a k162 fuel (nI u) (nI M) R e = k162 (nI (M + 1)) R' e ∧ fS E (2 * B) R' ∧ fM n M n 0 R0 R'
  | r, u, 0, R, _, hf, _, _ => absurd hf (Nat.not_lt_zero _)
  | 0, u, fuel + 1, R, hu, _, h1, h2 => by
    rw [q_X7_findBut_172.eq_2, hlv, if_pos ((nIle (by omega) (by omega)).mpr (by omega))]
    unfold q_X7_findBut_284
    rw [nI1]
    obtain rfl : u = n := by omega
    exact ⟨R, rfl, h1, h2⟩
  | r + 1, u, fuel + 1, R, hu, hf, h1, h2 => by
    rw [q_X7_findBut_172.eq_2, if_neg (by rw [hlv]; exact fun q => absurd ((nIle (by omega) (by omega)).mp q) (by omega))]
    obtain ⟨R', e1, e2, e3⟩ := fw_cols hn hlv k162 (q_X7_findBut_172 lv now a k162 fuel) hM (show u < n by omega) B hB0 hB R0 e h0 hd n 0 FU R (by omega) (by unfold FU; omega) h1 h2
    show ∃ R', q_X7_findBut_183 lv now a k162 (q_X7_findBut_172 lv now a k162 fuel) FU (nI 0) (nI u) (nI M) R e = _ ∧ _
    rw [e1]
    exact fw_rows hn hlv k162 hM B hB0 hB R0 e h0 hd r (u + 1) fuel R' (by omega) (by omega) e2 e3
def fB : Nat → Int
  | 0 => 10
  | M + 1 => 2 * fB M
theorem fB_le {M : Nat} (h : M ≤ 10) : 10 ≤ fB M ∧ fB M ≤ 10240 := by
  rcases (show M = 0 ∨ M = 1 ∨ M = 2 ∨ M = 3 ∨ M = 4 ∨ M = 5 ∨ M = 6 ∨ M = 7 ∨ M = 8 ∨ M = 9 ∨ M = 10 by omega) with rfl | rfl | rfl | rfl | rfl | rfl | rfl | rfl | rfl | rfl | rfl <;> decide
def RcOK (E : Nat → Nat → Int → Prop) (n : Nat) (R : Nat → Int32) : Prop := ∀ x y, x < n → y < n → (∃ d, Mx E x y d ∧ (R (10 * x + y)).toInt = d) ∨ (NoW E x y ∧ R (10 * x + y) = -100000)
theorem fw_loop {n : Nat} {E : Nat → Nat → Int → Prop} (hV : InV E n) (hN : NPC E) (hn : n ≤ 10) {lv : Int32} (hlv : lv = nI n) {now : Nat → Int32} {a : Int32} (e : Nat → Int32) :
    ∀ (r M fuel : Nat) (R : Nat → Int32), M + r = n → r < fuel → fS E (fB M) R → (∀ x, x < 10 → (R (10 * x + x)).toInt = 0) → (∀ (k x y : Nat) (d : Int), x < n → y < n → Wr E M k x y d → R (10 * x + y) ≠ -100000 ∧ d ≤ (R (10 * x + y)).toInt) → ∃ R', q_X7_findBut_162 lv now a fuel (nI M) R e = some (R', e) ∧ RcOK E n R'
  | r, M, 0, R, _, hf, _, _, _ => absurd hf (Nat.not_lt_zero _)
  | 0, M, fuel + 1, R, hM, _, h1, h2, h3 => by
    rw [q_X7_findBut_162.eq_2, hlv, if_pos ((nIle (by omega) (by omega)).mpr (by omega))]
    obtain rfl : M = n := by omega
    refine ⟨R, rfl, fun x y hx hy => ?_⟩
    rcases h1 x y (by omega) (by omega) with c | ⟨c, -⟩
    · exact Or.inr ⟨fun k d hk => (h3 k x y d hx hy (hk.wr hV)).1 c, c⟩
    · exact Or.inl ⟨_, ⟨c, fun k d hk => (h3 k x y d hx hy (hk.wr hV)).2⟩, rfl⟩
  | r + 1, M, fuel + 1, R, hM, hf, h1, h2, h3 => by
    rw [q_X7_findBut_162.eq_2, if_neg (by rw [hlv]; exact fun q => absurd ((nIle (by omega) (by omega)).mp q) (by omega))]
    obtain ⟨b1, b2⟩ := fB_le (show M ≤ 10 by omega)
    obtain ⟨R', e1, e2, e3⟩ := fw_rows hn hlv (q_X7_findBut_162 lv now a fuel) (show M < n by omega) (fB M) (by omega) b2 R e h1 (teq.mpr (h2 M (by omega))) n 0 FU R (by omega) (by unfold FU; omega) (h1.wide (by omega)) ⟨fun x y _ _ => Int.le_refl _, fun x _ => rfl, fun y _ => rfl, fun x y _ _ hc => by omega⟩
    show ∃ R', q_X7_findBut_172 lv now a (q_X7_findBut_162 lv now a fuel) FU (nI 0) (nI M) R e = _ ∧ _
    rw [e1]
    have up : ∀ x y, x < 10 → y < 10 → R (10 * x + y) ≠ -100000 → R' (10 * x + y) ≠ -100000 := fun x y hx hy hne q => by
      have g := e3.1 x y hx hy
      obtain ⟨-, g1, -⟩ := (h1 x y hx hy).resolve_left hne
      rw [q, tFAR] at g
      omega
    refine fw_loop hV hN hn hlv e r (M + 1) fuel R' (by omega) (by omega) e2 (fun x hx => ?_) (fun k x y d hx hy hk => ?_)
    · have g := e3.1 x x hx hx
      rw [h2 x hx] at g
      rcases e2 x x hx hx with c | ⟨⟨k, c⟩, -⟩
      · rw [c, tFAR] at g; omega
      · have := hN _ _ _ c
        omega
    · rcases hk.split with ⟨j, hj⟩ | ⟨j1, j2, j3, d1, d2, d3, g1, g2, g3, g4⟩
      · obtain ⟨q1, q2⟩ := h3 j x y d hx hy hj
        exact ⟨up x y (by omega) (by omega) q1, Int.le_trans q2 (e3.1 x y (by omega) (by omega))⟩
      · obtain ⟨q1, q2⟩ := h3 j1 x M d1 hx (by omega) g1
        obtain ⟨q3, q4⟩ := h3 j3 M y d3 (by omega) hy g3
        have q5 := hN _ _ _ g2
        have q6 := e3.2.2.2 x y hx hy (by omega) q1 q3
        obtain ⟨-, r1, -⟩ := (h1 x M (by omega) (by omega)).resolve_left q1
        obtain ⟨-, r2, -⟩ := (h1 M y (by omega) (by omega)).resolve_left q3
        refine ⟨fun q => ?_, by omega⟩
        rw [q, tFAR] at q6
        omega
/-- the reference's search, whole -/
theorem fw_ok {n m : Nat} {now : Nat → Int32} {a : Int32} (hg : gOK n m (mF now) (mT now) (mW now)) (hm10 : now 10 = nI m) (hN : NPC (mE now m a)) (R0 e0 : Nat → Int32) : ∃ R e, p_X7_findBut (nI n) now R0 e0 a = some (R, e) ∧ RcOK (mE now m a) n R ∧ EdOK (mE now m a) e := by
  unfold p_X7_findBut
  obtain ⟨e1, h1, h2⟩ := fw_clear (nI n) now a R0 100 0 FU e0 rfl (by unfold FU; omega) (fun k hk => absurd hk (Nat.not_lt_zero k))
  obtain ⟨e2, h3, h4⟩ := fw_edges (lv := nI n) (a := a) hg hm10 R0 m 0 FU e1 (by omega) (by have := hg.2.1; unfold FU; omega) (fun x y hx hy => Or.inr ⟨fun d hd => by obtain ⟨b, hb, -⟩ := hd; exact absurd hb (Nat.not_lt_zero b), h2 _ (by omega)⟩)
  obtain ⟨R1, h5, h6⟩ := fw_init (nI n) now a e2 100 0 FU R0 rfl (by unfold FU; omega) (fun k hk => absurd hk (Nat.not_lt_zero k))
  have hV := hg.inV a
  have hT := hg.ten a
  have hdiag : ∀ x, x < 10 → (R1 (10 * x + x)).toInt = 0 := fun x hx => by
    rw [h6 _ (by omega)]
    rcases h4 x x hx hx with ⟨d, g1, g2, g3⟩ | ⟨g1, g2⟩
    · have := hN 1 x d (Wk.one g1)
      by_cases hd : d < 0
      · rw [if_pos ⟨by omega, by rw [g3]; exact hd⟩]; rfl
      · rw [if_neg (fun q => by rw [g3] at q; exact hd q.2), g3]; omega
    · rw [if_pos ⟨by omega, by rw [g2, tFAR]; omega⟩]; rfl
  have hoff : ∀ x y, x < 10 → y < 10 → x ≠ y → R1 (10 * x + y) = e2 (10 * x + y) := fun x y hx hy hne => by
    rw [h6 _ (by omega), if_neg (fun q => by omega)]
  have hS : fS (mE now m a) (fB 0) R1 := fun x y hx hy => by
    by_cases hxy : x = y
    · subst hxy
      rw [hdiag x hx]
      exact Or.inr ⟨⟨0, rfl, rfl⟩, by decide, by decide⟩
    · rw [hoff x y hx hy hxy]
      rcases h4 x y hx hy with ⟨d, g1, g2, g3⟩ | ⟨g1, g2⟩
      · rw [g3]
        have := hT _ _ _ g1
        exact Or.inr ⟨⟨1, Wk.one g1⟩, by show -10 ≤ d; omega, by show d ≤ 10; omega⟩
      · exact Or.inl g2
  obtain ⟨R2, h7, h8⟩ := fw_loop hV hN hg.1 (lv := nI n) rfl (now := now) (a := a) e2 n 0 FU R1 (by omega) (by have := hg.1; unfold FU; omega) hS hdiag (fun k x y d hx hy hk => by
    have hn := hg.1
    cases k with
    | zero =>
      obtain ⟨rfl, rfl⟩ := hk
      have := hdiag x (by omega)
      exact ⟨fun q => by rw [q, tFAR] at this; omega, by omega⟩
    | succ k =>
      obtain ⟨z, d1, g1, g2, g3⟩ := hk
      rcases g2 with rfl | g2
      · obtain ⟨rfl, g4⟩ := g3
        obtain rfl : d1 = d := by omega
        by_cases hxy : x = z
        · subst hxy
          have := hN 1 x d1 (Wk.one g1)
          have h9 := hdiag x (by omega)
          exact ⟨fun q => by rw [q, tFAR] at h9; omega, by omega⟩
        · rw [hoff x z (by omega) (by omega) hxy]
          rcases h4 x z (by omega) (by omega) with ⟨d, q1, q2, q3⟩ | ⟨q1, q2⟩
          · have := q2 _ g1
            have := hT _ _ _ q1
            exact ⟨fun q => by rw [q, tFAR] at q3; omega, by omega⟩
          · exact absurd g1 (q1 _)
      · exact absurd g2 (Nat.not_lt_zero _))
  refine ⟨R2, e2, ?_, h8, h4⟩
  show q_X7_findBut_2 (nI n) now a FU (nI 0) R0 e0 = _
  rw [h1]
  show q_X7_findBut_24 (nI n) now a FU (nI 0) R0 e1 = _
  rw [h3]
  show q_X7_findBut_116 (nI n) now a FU (nI 0) R0 e2 = _
  rw [h5]
  exact h7
theorem fw_find {n m : Nat} {now : Nat → Int32} (hg : gOK n m (mF now) (mT now) (mW now)) (hm10 : now 10 = nI m) (hN : NPC (mE now m 0)) (R0 e0 : Nat → Int32) : ∃ R e, p_X7_find (nI n) now R0 e0 = some (R, e) ∧ RcOK (mE now m 0) n R ∧ EdOK (mE now m 0) e := by
  obtain ⟨R, e, h1, h2, h3⟩ := fw_ok (a := 0) hg hm10 hN R0 e0
  unfold p_X7_find
  rw [h1]
  exact ⟨R, e, rfl, h2, h3⟩
