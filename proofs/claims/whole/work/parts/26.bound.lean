/-! bound: needless, slack -/
theorem bdC {c : Nat} (hc : c ≤ 1000) (a : Int32) : (p_X6_isBound (nI c) a = some 0 ∧ p_X7_in a.toInt64 0 (nI c - 1 : Int32).toInt64 = some 0) ∨ ∃ k, k < c ∧ a = nI k ∧ p_X6_isBound (nI c) a = some 1 ∧ p_X7_in a.toInt64 0 (nI c - 1 : Int32).toInt64 = some 1 := by
  have e1 : ((nI c - 1 : Int32).toInt64).toInt = (c : Int) - 1 := by
    rw [Int32.toInt_toInt64, tsub (by rw [tnI (by omega), tlit1]; omega) (by rw [tnI (by omega), tlit1]; omega), tnI (by omega), tlit1]
  have e0 : (0 : Int64).toInt = 0 := rfl
  have en := tnI (show c < 2147483648 by omega)
  unfold p_X6_isBound
  rcases ii (x := a) e0 e1 with ⟨h1, h2, h3⟩ | ⟨h1, h3⟩
  · obtain ⟨k1, k2, -⟩ := isI (n := c) h1 (by omega)
    refine Or.inr ⟨a.toNatClampNeg, k2, k1, ?_, h3⟩
    rw [if_neg (fun q => by have := tlt.mp q; rw [tlit0] at this; omega), if_neg (fun q => by have := tle.mp q; omega)]
  · refine Or.inl ⟨?_, h3⟩
    by_cases c : a < 0
    · rw [if_pos c]
    · have c' : ¬ a.toInt < 0 := fun q => c (tlt.mpr q)
      rw [if_neg c, if_pos (tle.mpr (by omega))]
theorem bit0 (b : Nat) : ¬ bitB 0 b := fun h => h (by rw [show (0 : Int32) >>> (nI b &&& 31) = 0 from Int32.zero_shiftRight]; rfl)
theorem bit1d : ∀ b b' : Fin 16, ((((1 : Int32) <<< (nI b.val &&& 31)) >>> (nI b'.val &&& 31)) &&& 1 = 0) ↔ b ≠ b' := by decide +kernel
theorem bit1 {b b' : Nat} (hb : b < 16) (hb' : b' < 16) : bitB ((1 : Int32) <<< (nI b &&& 31)) b' ↔ b' = b := by
  have h := bit1d ⟨b, hb⟩ ⟨b', hb'⟩
  unfold bitB
  constructor
  · intro q
    exact Classical.byContradiction fun z => q (h.mpr (fun e => z (Fin.mk.inj e).symm))
  · intro q z
    exact h.mp z (Fin.ext q.symm)
theorem Ed_sub {f t w : Nat → Int32} {m : Nat} {a : Int32} : ∀ x y d, Ed f t w m a x y d → Ed f t w m 0 x y d := by
  rintro x y d ⟨b, h1, -, h3⟩
  exact ⟨b, h1, bit0 b, h3⟩
theorem NPC.sub {E F : Nat → Nat → Int → Prop} (h : ∀ x y d, E x y d → F x y d) (hF : NPC F) : NPC E := fun k u d hk => hF k u d (hk.mono h)
theorem back_split {E E' : Nat → Nat → Int → Prop} {u v : Nat} {wb : Int} (hE : ∀ x y d, E x y d → E' x y d ∨ (x = u ∧ y = v ∧ d = wb)) : ∀ (k x : Nat) (d : Int), Wk E k x u d → Wk E' k x u d ∨ ∃ (k1 k2 : Nat) (d1 d2 : Int), k2 < k ∧ Wk E k1 x u d1 ∧ Wk E k2 v u d2 ∧ d = d1 + wb + d2
  | 0, x, d, h => Or.inl h
  | k + 1, x, d, h => by
    obtain ⟨y, d1, h1, h2⟩ := h
    rcases hE _ _ _ h1 with h3 | ⟨rfl, rfl, rfl⟩
    · rcases back_split hE k y _ h2 with h4 | ⟨k1, k2, e1, e2, g1, g2, g3, g4⟩
      · exact Or.inl ⟨y, d1, h3, h4⟩
      · refine Or.inr ⟨k1 + 1, k2, d1 + e1, e2, by omega, ⟨y, d1, h1, ?_⟩, g3, by omega⟩
        rw [show d1 + e1 - d1 = e1 by omega]
        exact g2
    · exact Or.inr ⟨0, k, 0, d - d1, by omega, ⟨rfl, rfl⟩, h2, by omega⟩
theorem back_walk {E E' : Nat → Nat → Int → Prop} {u v : Nat} {wb : Int} (hN : NPC E) (hb : E u v wb) (hE : ∀ x y d, E x y d → E' x y d ∨ (x = u ∧ y = v ∧ d = wb)) : ∀ (k : Nat) (d : Int), Wk E k v u d → ∃ (k' : Nat) (d' : Int), d ≤ d' ∧ Wk E' k' v u d' := by
  intro k
  induction k using Nat.strongRecOn with
  | _ k ih =>
    intro d h
    rcases back_split hE k v d h with h1 | ⟨k1, k2, d1, d2, g1, g2, g3, g4⟩
    · exact ⟨k, d, Int.le_refl _, h1⟩
    · have hc := hN _ _ _ (g2.snoc hb)
      obtain ⟨k', d', a1, a2⟩ := ih k2 g1 d2 g3
      exact ⟨k', d', by omega, a2⟩
theorem back_mx {E E' : Nat → Nat → Int → Prop} {u v : Nat} {wb : Int} (hN : NPC E) (hb : E u v wb) (hsub : ∀ x y d, E' x y d → E x y d) (hE : ∀ x y d, E x y d → E' x y d ∨ (x = u ∧ y = v ∧ d = wb)) {d : Int} (h : Mx E' v u d) : Mx E v u d := by
  obtain ⟨⟨k, hk⟩, h2⟩ := h
  refine ⟨⟨k, hk.mono hsub⟩, fun k d' hd => ?_⟩
  obtain ⟨k', e, a1, a2⟩ := back_walk hN hb hE k d' hd
  have := h2 _ _ a2
  omega
section
variable {n m : Nat} {k f t w row : Nat → Int32} {G : Nat → Nat → Int32}
theorem SM.findBut (hS : SM n m k f t w row) (a : Int32) (R0 e0 : Nat → Int32) : ∃ R e, p_X7_findBut (nI n) row R0 e0 a = some (R, e) ∧ RcOK (Ed f t w m a) n R := by
  obtain ⟨R, e, h1, h2, -⟩ := fw_ok (a := a) hS.mg hS.1 (by rw [hS.mE a]; exact hS.2.2.2.2.sub Ed_sub) R0 e0
  rw [hS.mE a] at h2
  exact ⟨R, e, h1, h2⟩
theorem e_bound (hS : SM n m k f t w row) (hL : LG n m f t w G) (T R0 e0 : Nat → Int32) (a b : Int32) : ∃ r T' R e, p_X6_bound f t w (nI n) (nI m) T G a b = some (r, T') ∧ p_X7_bound (nI n) row R0 e0 a b = some (r, R, e) := by
  have hn := hS.n10
  have hm := hS.m16
  unfold p_X6_bound p_X7_bound
  rw [show rd row 59 10 = some (nI m) from by rw [show rd row 59 10 = some (row 10) from rd_nI (k := 10) (by omega) (by omega), hS.1], bsome]
  rcases bdC (show m ≤ 1000 by omega) a with ⟨h1, h2⟩ | ⟨i, hi, rfl, h1, h2⟩
  · rw [h1, h2]; exact ⟨-1, T, R0, e0, rfl, rfl⟩
  rw [h1, h2, bsome, bsome, z0, z0]
  rcases (ii (x := b) (L := 0) (H := 4) (a := 0) (b := 4) rfl (by decide)).symm with ⟨b1, h4⟩ | ⟨b1, b2, h4⟩
  · rw [h4]
    refine ⟨-1, T, R0, e0, ?_, rfl⟩
    have ne : ∀ (c : Int32) (j : Int), c.toInt = j → 0 ≤ j → j ≤ 4 → ¬ b = c := fun c j hc h0 h4 q => by rw [q, hc] at b1; omega
    rw [if_neg (ne 0 0 rfl (by omega) (by omega)), if_neg (ne 1 1 rfl (by omega) (by omega)), if_neg (ne 2 2 rfl (by omega) (by omega)), if_neg (ne 3 3 rfl (by omega) (by omega)), if_neg (ne 4 4 rfl (by omega) (by omega))]
  obtain ⟨g1, g2, g3⟩ := hS.2.2.1 i hi
  obtain ⟨q1, q2, q3, q4, q5, q6⟩ := hS.2.2.2.1.at hi
  generalize hX : (f i).toNatClampNeg = X at q1 q2
  generalize hY : (t i).toNatClampNeg = Y at q3 q4
  obtain ⟨R, e, r1, r2⟩ := hS.findBut ((1 : Int32) <<< (nI i &&& 31)) R0 e0
  have rF : rd row 59 (11 + nI i) = some (nI X) := by rw [pl11, rd_nI (by omega) (by omega), ← g1, q1]
  have rT : rd row 59 (27 + nI i) = some (nI Y) := by rw [pl27, rd_nI (by omega) (by omega), ← g2, q3]
  have rW : rd row 59 (43 + nI i) = some (w i) := by rw [pl43, rd_nI (by omega) (by omega), ← g3]
  have sF : rd f 16 (nI i) = some (nI X) := by rw [rd_nI (by omega) (by omega), q1]
  have sT : rd t 16 (nI i) = some (nI Y) := by rw [rd_nI (by omega) (by omega), q3]
  have sW : rd w 16 (nI i) = some (w i) := rd_nI (by omega) (by omega)
  rw [h4, bsome, z0, rF, bsome, rT, bsome, rW, bsome, r1, sF, sT, sW]
  show ∃ r T' R9 e9, _ ∧ (if b = 0 then some (nI X, R, e) else if b = 1 then some (nI Y, R, e) else if b = 2 then some (w i + 100, R, e) else if b = 3 then _ else _) = _
  by_cases c0 : b = 0
  · rw [if_pos c0, if_pos c0]; exact ⟨_, T, R, e, rfl, rfl⟩
  rw [if_neg c0, if_neg c0]
  by_cases c1 : b = 1
  · rw [if_pos c1, if_pos c1]; exact ⟨_, T, R, e, rfl, rfl⟩
  rw [if_neg c1, if_neg c1]
  by_cases c2 : b = 2
  · rw [if_pos c2, if_pos c2]; exact ⟨_, T, R, e, rfl, rfl⟩
  rw [if_neg c2, if_neg c2]
  have hbd := hS.2.2.2.1
  have hNa := hS.2.2.2.2.sub (E := Ed f t w m ((1 : Int32) <<< (nI i &&& 31))) Ed_sub
  by_cases c3 : b = 3
  · rw [if_pos c3, if_pos c3]
    obtain ⟨o, o1, o2⟩ := bf_ok hbd hNa (show X < n by omega) T
    unfold p_X6_isNeedless
    rw [sF, bsome, o1, bsome, sT, bsome, rd_nI (by omega) (by omega), bsome, sW, bsome, ten, rd_nI (by omega) (by omega), bsome, bsome]
    rcases o2 Y (by omega) with ⟨d, m1, m2⟩ | ⟨m1, m2⟩
    · rcases r2 X Y (by omega) (by omega) with ⟨d', m3, m4⟩ | ⟨m3, -⟩
      · have := m1.uniq m3
        have hb := m1.bd (hbd.inV _) hNa (hbd.ten _) hn (by omega)
        rw [isWay_yes (by omega), bsome, z0, show R (10 * X + Y) = o Y from teq.mpr (by omega)]
        by_cases cc : o Y < w i
        · rw [if_pos cc, if_pos cc]; exact ⟨0, o, R, e, rfl, rfl⟩
        · rw [if_neg cc, if_neg cc]; exact ⟨1, o, R, e, rfl, rfl⟩
      · exact (m1.not m3).elim
    · rcases r2 X Y (by omega) (by omega) with ⟨d', m3, -⟩ | ⟨-, m4⟩
      · exact (m3.not m1).elim
      · rw [isWay_no (by rw [m4, tFAR]; omega), bsome, z1, m2, if_pos (tlt.mpr (by rw [tNW]; omega))]
        exact ⟨0, o, R, e, rfl, rfl⟩
  rw [if_neg c3, if_neg c3]
  have c4 : b = 4 := teq.mpr (by
    have n0 := lv_neT c0 (show (0 : Int32).toInt = 0 from rfl)
    have n1 := lv_neT c1 (show (1 : Int32).toInt = 1 from rfl)
    have n2 := lv_neT c2 (show (2 : Int32).toInt = 2 from rfl)
    have n3 := lv_neT c3 (show (3 : Int32).toInt = 3 from rfl)
    rw [show (4 : Int32).toInt = 4 from rfl]; omega)
  rw [if_pos c4]
  have mine : Ed f t w m 0 X Y (w i).toInt := ⟨i, hi, bit0 i, hX, hY, rfl⟩
  have part : ∀ x y d, Ed f t w m 0 x y d → Ed f t w m ((1 : Int32) <<< (nI i &&& 31)) x y d ∨ (x = X ∧ y = Y ∧ d = (w i).toInt) := by
    rintro x y d ⟨b', p1, p2, p3, p4, p5⟩
    by_cases hc : b' = i
    · subst hc
      exact Or.inr ⟨by rw [← p3, hX], by rw [← p4, hY], p5.symm⟩
    · exact Or.inl ⟨b', p1, fun q => hc ((bit1 (by omega) (by omega)).mp q), p3, p4, p5⟩
  unfold p_X6_slackOf p_X1_leads
  have ixY : ix 10 (nI Y) = some Y := ix_nI (by omega) (by omega)
  have gYX : rd (G Y) 10 (nI X) = some (G Y X) := rd_nI (by omega) (by omega)
  have rR : rd R 100 (10 * nI Y + nI X) = some (R (10 * Y + X)) := by rw [ten, rd_nI (by omega) (by omega)]
  simp only [sF, sT, sW, ixY, gYX, rR, bsome]
  rcases r2 Y X (by omega) (by omega) with ⟨d, m1, m2⟩ | ⟨m1, m2⟩
  · have m3 := back_mx hS.2.2.2.2 mine Ed_sub part m1
    rcases hL Y (by omega) X (by omega) with ⟨d', m4, m5⟩ | ⟨m4, -⟩
    · have := m3.uniq m4
      have hb := m3.bd (hbd.inV _) hS.2.2.2.2 (hbd.ten _) hn (by omega)
      rw [if_neg (fun q => by rw [q, tNW] at m5; omega), isWay_yes (by omega)]
      simp only [bsome, z0]
      refine ⟨_, T, R, e, rfl, ?_⟩
      rw [show (-w i - R (10 * Y + X)) = -(G Y X + w i) from teq.mpr (by
        have s1 : (G Y X + w i).toInt = (G Y X).toInt + (w i).toInt := tadd (by omega) (by omega)
        have s2 : (-w i).toInt = -(w i).toInt := tneg (by omega)
        rw [tneg (by omega), tsub (by omega) (by omega), s1, s2]; omega)]
    · exact (m3.not m4).elim
  · have m3 : NoW (Ed f t w m 0) Y X := fun k d hk => by
      obtain ⟨k', d', -, a2⟩ := back_walk hS.2.2.2.2 mine part k d hk
      exact m1 k' d' a2
    rcases hL Y (by omega) X (by omega) with ⟨d', m4, -⟩ | ⟨-, m5⟩
    · exact (m4.not m3).elim
    · rw [if_pos m5, isWay_no (by rw [m2, tFAR]; omega)]
      exact ⟨-4, T, R, e, rfl, rfl⟩
end
