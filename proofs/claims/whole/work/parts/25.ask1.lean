/-! reach, follows, raised, top, level, count: the same answers -/
section
variable {n m : Nat} {k f t w row : Nat → Int32} {G : Nat → Nat → Int32}
theorem e_reach (hS : SM n m k f t w row) (hL : LG n m f t w G) (R0 e0 : Nat → Int32) (a b : Int32) : ∃ r R e, p_X6_reach (nI n) G a b = some r ∧ p_X7_reach (nI n) row R0 e0 a b = some (r, R, e) := by
  have hn := hS.n10
  unfold p_X6_reach p_X7_reach
  rcases lvC hn a with ⟨h1, h2⟩ | ⟨u, hu, rfl, h1, h2⟩
  · rw [h1, h2]; exact ⟨-1, R0, e0, rfl, rfl⟩
  · rw [h1, h2, bsome, bsome, z0, z0]
    rcases lvC hn b with ⟨h3, h4⟩ | ⟨v, hv, rfl, h3, h4⟩
    · rw [h3, h4]; exact ⟨-1, R0, e0, rfl, rfl⟩
    · obtain ⟨R, e, g1, g2, -⟩ := hS.find hL R0 e0
      rw [h3, h4, bsome, bsome, z0, z0, g1]
      rcases leadsC hn g2 hu hv with ⟨q1, q2, q3, q4⟩ | ⟨q1, -, -, q2, q3, q4⟩
      · exact ⟨-4, R, e, by rw [q2, bsome, z1], by show (rd R 100 _).bind _ = _; rw [q3, bsome, q4, bsome, z1]⟩
      · refine ⟨R (10 * u + v) + 1000, R, e, by rw [q2, bsome, z0, ix_nI (by omega) (by omega), bsome, rd_nI (by omega) (by omega), bsome, q1], by show (rd R 100 _).bind _ = _; rw [q3, bsome, q4, bsome, z0, bsome]⟩
theorem e_follows (hS : SM n m k f t w row) (hL : LG n m f t w G) (R0 e0 : Nat → Int32) (a b c : Int32) : ∃ r R e, p_X6_follows (nI n) G a b c = some r ∧ p_X7_follows (nI n) row R0 e0 a b c = some (r, R, e) := by
  have hn := hS.n10
  unfold p_X6_follows p_X7_follows
  rcases lvC hn a with ⟨h1, h2⟩ | ⟨u, hu, rfl, h1, h2⟩
  · rw [h1, h2]; exact ⟨-1, R0, e0, rfl, rfl⟩
  · rw [h1, h2, bsome, bsome, z0, z0]
    rcases kC b with ⟨h3, h4⟩ | ⟨-, -, h3, h4⟩
    · rw [h3, h4]; exact ⟨-1, R0, e0, rfl, rfl⟩
    · rw [h3, h4, bsome, bsome, z0, z0]
      rcases lvC hn c with ⟨h5, h6⟩ | ⟨v, hv, rfl, h5, h6⟩
      · rw [h5, h6]; exact ⟨-1, R0, e0, rfl, rfl⟩
      · obtain ⟨R, e, g1, g2, -⟩ := hS.find hL R0 e0
        obtain ⟨r, hr, q1, q2⟩ := soC hn g2 hu hv b
        rw [h5, h6, bsome, bsome, z0, z0, g1, q1]
        refine ⟨r, R, e, ?_, ?_⟩
        · rcases hr with rfl | rfl <;> rfl
        · show (p_X7_isSo R _ _ _).bind _ = _
          rw [q2]
          rcases hr with rfl | rfl <;> rfl
theorem e_raised (hS : SM n m k f t w row) (hL : LG n m f t w G) (R0 e0 : Nat → Int32) (a x c : Int32) : ∃ r R e, p_X6_raised (nI n) G (nI n) a x c = some r ∧ p_X7_raised (nI n) row R0 e0 a x c = some (r, R, e) := by
  have hn := hS.n10
  unfold p_X6_raised p_X7_raised
  rcases lvC hn a with ⟨h1, h2⟩ | ⟨u, hu, rfl, h1, h2⟩
  · rw [h1, h2]; exact ⟨-1, R0, e0, rfl, rfl⟩
  · rw [h1, h2, bsome, bsome, z0, z0]
    rcases xC x with ⟨h3, h4⟩ | ⟨x1, x2, h3, h4⟩
    · rw [h3, h4]; exact ⟨-1, R0, e0, rfl, rfl⟩
    · rw [h3, h4, bsome, bsome, z0, z0]
      rcases lvC hn c with ⟨h5, h6⟩ | ⟨v, hv, rfl, h5, h6⟩
      · rw [h5, h6]; exact ⟨-1, R0, e0, rfl, rfl⟩
      · obtain ⟨R, e, g1, g2, -⟩ := hS.find hL R0 e0
        obtain ⟨y, q1, q2, -⟩ := valC hn g2 hv
        rw [h5, h6, bsome, bsome, z0, z0, g1, q1]
        rcases leadsC hn g2 hu hv with ⟨p1, p2, p3, p4⟩ | ⟨p1, -, -, p2, p3, p4⟩
        · refine ⟨y, R, e, by rw [bsome, p2, bsome, z1], ?_⟩
          show (p_X7_valueOf _ R _).bind _ = _
          rw [q2, bsome, p3, bsome, p4, bsome, z1]
        · rw [bsome, p2, bsome, z0, ix_nI (by omega) (by omega), bsome, rd_nI (by omega) (by omega), bsome, p1]
          show ∃ r R9 e9, _ ∧ (p_X7_valueOf _ R _).bind _ = _
          rw [q2, bsome, p3, bsome, p4, bsome, z0]
          by_cases cc : y < x + R (10 * u + v)
          · rw [if_pos cc, if_neg (fun q => by have := tle.mp q; have := tlt.mp cc; omega)]
            exact ⟨_, R, e, rfl, rfl⟩
          · have c' : ¬ y.toInt < (x + R (10 * u + v)).toInt := fun q => cc (tlt.mpr q)
            rw [if_neg cc, if_pos (tle.mpr (by omega))]
            exact ⟨y, R, e, rfl, rfl⟩
theorem e_top (hS : SM n m k f t w row) (hL : LG n m f t w G) (R0 e0 : Nat → Int32) (a x c : Int32) : ∃ r R e, p_X6_top (nI n) G (nI n) a x c = some r ∧ p_X7_top (nI n) row R0 e0 a x c = some (r, R, e) := by
  have hn := hS.n10
  unfold p_X6_top p_X7_top
  rcases lvC hn a with ⟨h1, h2⟩ | ⟨u, hu, rfl, h1, h2⟩
  · rw [h1, h2]; exact ⟨-1, R0, e0, rfl, rfl⟩
  · rw [h1, h2, bsome, bsome, z0, z0]
    rcases xC x with ⟨h3, h4⟩ | ⟨x1, x2, h3, h4⟩
    · rw [h3, h4]; exact ⟨-1, R0, e0, rfl, rfl⟩
    · rw [h3, h4, bsome, bsome, z0, z0]
      rcases lvC hn c with ⟨h5, h6⟩ | ⟨v, hv, rfl, h5, h6⟩
      · rw [h5, h6]; exact ⟨-1, R0, e0, rfl, rfl⟩
      · obtain ⟨R, e, g1, g2, -⟩ := hS.find hL R0 e0
        obtain ⟨y, q1, q2, -⟩ := valC hn g2 hu
        rw [h5, h6, bsome, bsome, z0, z0, g1]
        rcases leadsC hn g2 hv hu with ⟨p1, p2, p3, p4⟩ | ⟨p1, -, -, p2, p3, p4⟩
        · refine ⟨-4, R, e, by rw [p2, bsome, z1], ?_⟩
          show (rd R 100 _).bind _ = _
          rw [p3, bsome, p4, bsome, z1]
        · rw [p2, bsome, z0, q1, bsome, ix_nI (by omega) (by omega), bsome, rd_nI (by omega) (by omega), bsome, p1]
          show ∃ r R9 e9, _ ∧ (rd R 100 _).bind _ = _
          rw [p3, bsome, p4, bsome, z0, q2, bsome]
          by_cases cc : y ≤ x
          · rw [if_pos cc, if_pos cc]; exact ⟨_, R, e, rfl, rfl⟩
          · rw [if_neg cc, if_neg cc]; exact ⟨-4, R, e, rfl, rfl⟩
theorem place_loop (hn : n ≤ 10) {R e : Nat → Int32} (h : GM n G R) {u : Nat} (hu : u < n) {y : Int32} (hy1 : p_X7_valueOf (nI n) R (nI u) = some y) (a2 : Int32) : ∀ (r v fuel : Nat) (c : Int32), v + r = n → r < fuel → ∃ z, q_X6_placeOf_14 (nI n) G (nI n) (nI u) fuel (nI v) c y = some z ∧ q_X7_level_74 (nI n) row (nI u) a2 fuel (nI v) c R e = some (z, R, e)
  | r, v, 0, c, _, hf => absurd hf (Nat.not_lt_zero _)
  | 0, v, fuel + 1, c, hv, _ => by
    rw [q_X6_placeOf_14.eq_2, q_X7_level_74.eq_2, if_pos ((nIle (by omega) (by omega)).mpr (by omega)), if_pos ((nIle (by omega) (by omega)).mpr (by omega))]
    exact ⟨c, rfl, rfl⟩
  | r + 1, v, fuel + 1, c, hv, hf => by
    obtain ⟨x, q1, q2, -⟩ := valC hn h (show v < n by omega)
    have go := fun c => place_loop hn (e := e) h hu hy1 a2 r (v + 1) fuel c (by omega) (by omega)
    rw [q_X6_placeOf_14.eq_2, q_X7_level_74.eq_2, if_neg (nI_ge (a := v) (b := n) (by omega) (by omega)), if_neg (nI_ge (a := v) (b := n) (by omega) (by omega)), q1, q2, hy1]
    simp only [bsome, nI1, q_X7_level_118, show ∀ z : Int32, z + 0 = z from fun z => by rw [Int32.add_zero]]
    by_cases c1 : x < y
    · rw [if_pos c1, if_pos c1]; exact go _
    · rw [if_neg c1, if_neg c1]
      by_cases c2 : x = y
      · rw [if_pos c2, if_pos c2]
        by_cases c3 : nI u ≤ nI v
        · rw [if_pos c3, if_pos c3]; exact go _
        · rw [if_neg c3, if_neg c3]; exact go _
      · rw [if_neg c2, if_neg c2]; exact go _
theorem same_loop (hn : n ≤ 10) {R e : Nat → Int32} (h : GM n G R) {u : Nat} (hu : u < n) (a2 : Int32) : ∀ (r v fuel : Nat) (c : Int32), v + r = n → r < fuel → ∃ z, q_X6_sameAs_4 (nI n) G (nI u) fuel (nI v) c = some z ∧ q_X7_level_139 (nI n) row (nI u) a2 fuel (nI v) c R e = some (z, R, e)
  | r, v, 0, c, _, hf => absurd hf (Nat.not_lt_zero _)
  | 0, v, fuel + 1, c, hv, _ => by
    rw [q_X6_sameAs_4.eq_2, q_X7_level_139.eq_2, if_pos ((nIle (by omega) (by omega)).mpr (by omega)), if_pos ((nIle (by omega) (by omega)).mpr (by omega))]
    exact ⟨c, rfl, rfl⟩
  | r + 1, v, fuel + 1, c, hv, hf => by
    have go := fun c => same_loop hn (e := e) h hu a2 r (v + 1) fuel c (by omega) (by omega)
    have zero : ∀ x y : Nat, x < n → y < n → (G x y = 0 ↔ R (10 * x + y) = 0) := fun x y hx hy => by
      rcases h x y hx hy with ⟨g1, g2⟩ | ⟨g1, -⟩
      · rw [g1, g2]; decide
      · rw [g1]
    rw [q_X6_sameAs_4.eq_2, q_X7_level_139.eq_2, if_neg (fun q => absurd ((nIle (by omega) (by omega)).mp q) (by omega)), if_neg (fun q => absurd ((nIle (by omega) (by omega)).mp q) (by omega))]
    unfold p_X7_areSame
    rw [ix_nI (by omega) (by omega), bsome, rd_nI (by omega) (by omega), bsome, ten, rd_nI (by omega) (by omega), bsome, ix_nI (by omega) (by omega), bsome, rd_nI (by omega) (by omega), bsome, ten, rd_nI (by omega) (by omega), bsome]
    simp only [nI1, show ∀ z : Int32, z ||| 0 = z from fun z => by rw [Int32.or_zero]]
    by_cases c1 : G u v = 0
    · rw [if_pos c1, if_pos ((zero u v hu (by omega)).mp c1)]
      by_cases c2 : G v u = 0
      · rw [if_pos c2, if_pos ((zero v u (by omega) hu).mp c2), bsome, z0]; exact go _
      · rw [if_neg c2, if_neg (fun q => c2 ((zero v u (by omega) hu).mpr q)), bsome, z1]; exact go _
    · rw [if_neg c1, if_neg (fun q => c1 ((zero u v hu (by omega)).mpr q)), bsome, z1]; exact go _
theorem e_level (hS : SM n m k f t w row) (hL : LG n m f t w G) (R0 e0 : Nat → Int32) (a b : Int32) : ∃ r R e, p_X6_level k (nI n) G (nI n) a b = some r ∧ p_X7_level (nI n) row R0 e0 a b = some (r, R, e) := by
  have hn := hS.n10
  unfold p_X6_level p_X7_level
  rcases lvC hn a with ⟨h1, h2⟩ | ⟨u, hu, rfl, h1, h2⟩
  · rw [h1, h2]; exact ⟨-1, R0, e0, rfl, rfl⟩
  · rw [h1, h2, bsome, bsome, z0, z0]
    rcases ii (x := b) (L := 0) (H := 4) (a := 0) (b := 4) rfl (by decide) with ⟨b1, b2, h4⟩ | ⟨b1, h4⟩
    · obtain ⟨R, e, g1, g2, -⟩ := hS.find hL R0 e0
      rw [h4, bsome, z0, g1]
      show ∃ r R9 e9, _ ∧ (if b = 0 then (rd row 59 (nI u)).bind fun x11 => some (x11, R, e) else if b = 1 then (p_X7_valueOf (nI n) R (nI u)).bind fun r15 => some (r15, R, e) else if b = 2 then q_X7_level_74 (nI n) row (nI u) b FU 0 0 R e else if b = 3 then q_X7_level_139 (nI n) row (nI u) b FU 0 0 R e else _) = _
      obtain ⟨y, v1, v2, -⟩ := valC hn g2 hu
      by_cases c0 : b = 0
      · rw [if_pos c0, if_pos c0, rd_nI (by omega) (by omega), rd_nI (by omega) (by omega)]
        exact ⟨row u, R, e, by rw [← (hS.2.1 u hu).1]; rfl, rfl⟩
      · rw [if_neg c0, if_neg c0]
        by_cases c1 : b = 1
        · rw [if_pos c1, if_pos c1, v1, v2]; exact ⟨y, R, e, rfl, rfl⟩
        · rw [if_neg c1, if_neg c1]
          by_cases c2 : b = 2
          · rw [if_pos c2, if_pos c2]
            unfold p_X6_placeOf
            rw [v1, bsome]
            obtain ⟨z, g3, g4⟩ := place_loop (row := row) hn (e := e) g2 hu v2 b n 0 FU 0 (by omega) (by unfold FU; omega)
            exact ⟨z, R, e, by show (q_X6_placeOf_14 _ _ _ _ FU (nI 0) _ _).bind _ = _; rw [g3, bsome], g4⟩
          · rw [if_neg c2, if_neg c2]
            by_cases c3 : b = 3
            · rw [if_pos c3, if_pos c3]
              unfold p_X6_sameAs
              obtain ⟨z, g3, g4⟩ := same_loop (row := row) hn (e := e) g2 hu b n 0 FU 0 (by omega) (by unfold FU; omega)
              exact ⟨z, R, e, by show (q_X6_sameAs_4 _ _ _ FU (nI 0) _).bind _ = _; rw [g3, bsome], g4⟩
            · rw [if_neg c3, if_neg c3]
              have c4 : b = 4 := teq.mpr (by
                have n0 := lv_neT c0 (show (0 : Int32).toInt = 0 from rfl)
                have n1 := lv_neT c1 (show (1 : Int32).toInt = 1 from rfl)
                have n2 := lv_neT c2 (show (2 : Int32).toInt = 2 from rfl)
                have n3 := lv_neT c3 (show (3 : Int32).toInt = 3 from rfl)
                rw [show (4 : Int32).toInt = 4 from rfl]; omega)
              rw [if_pos c4]
              obtain ⟨r, hr, f1, f2⟩ := floatC hS hu
              rw [f1, f2]
              refine ⟨r, R, e, ?_, ?_⟩
              · rcases hr with rfl | rfl <;> rfl
              · rcases hr with rfl | rfl <;> rfl
    · rw [h4]
      refine ⟨-1, R0, e0, ?_, rfl⟩
      have ne : ∀ (c : Int32) (j : Int), c.toInt = j → 0 ≤ j → j ≤ 4 → ¬ b = c := fun c j hc h0 h4 q => by rw [q, hc] at b1; omega
      rw [if_neg (ne 0 0 rfl (by omega) (by omega)), if_neg (ne 1 1 rfl (by omega) (by omega)), if_neg (ne 2 2 rfl (by omega) (by omega)), if_neg (ne 3 3 rfl (by omega) (by omega)), if_neg (ne 4 4 rfl (by omega) (by omega))]
theorem great_loop (hn : n ≤ 10) {R : Nat → Int32} (h : GM n G R) : ∀ (r v fuel : Nat) (c : Int32), v + r = n → r < fuel → ∃ z, q_X1_greatestValue_4 G (nI n) fuel (nI v) c = some z ∧ q_X7_greatest_4 (nI n) R fuel (nI v) c = some z
  | r, v, 0, c, _, hf => absurd hf (Nat.not_lt_zero _)
  | 0, v, fuel + 1, c, hv, _ => by
    rw [q_X1_greatestValue_4.eq_2, q_X7_greatest_4.eq_2, if_pos ((nIle (by omega) (by omega)).mpr (by omega)), if_pos ((nIle (by omega) (by omega)).mpr (by omega))]
    exact ⟨c, rfl, rfl⟩
  | r + 1, v, fuel + 1, c, hv, hf => by
    obtain ⟨x, q1, q2, -⟩ := valC hn h (show v < n by omega)
    rw [q_X1_greatestValue_4.eq_2, q_X7_greatest_4.eq_2, if_neg (fun q => absurd ((nIle (by omega) (by omega)).mp q) (by omega)), if_neg (fun q => absurd ((nIle (by omega) (by omega)).mp q) (by omega)), q1, q2, bsome, bsome, bsome, nI1]
    by_cases cc : c < x
    · rw [if_pos cc, if_neg (fun q => by have := tle.mp q; have := tlt.mp cc; omega)]
      exact great_loop hn h r (v + 1) fuel x (by omega) (by omega)
    · have c' : ¬ c.toInt < x.toInt := fun q => cc (tlt.mpr q)
      rw [if_neg cc, if_pos (tle.mpr (by omega))]
      exact great_loop hn h r (v + 1) fuel c (by omega) (by omega)
theorem pairs_in (hn : n ≤ 10) {R : Nat → Int32} (h : GM n G R) {u : Nat} (hu : u < n) (k1 k2 : Int32 → Int32 → Option Int32) : ∀ (r v fuel : Nat) (c : Int32), v + r = n → r < fuel → ∃ z, q_X1_pairs_14 G (nI n) k1 fuel (nI v) (nI u) c = k1 (nI (u + 1)) z ∧ q_X7_pairs_14 (nI n) R k2 fuel (nI v) (nI u) c = k2 (nI (u + 1)) z
  | r, v, 0, c, _, hf => absurd hf (Nat.not_lt_zero _)
  | 0, v, fuel + 1, c, hv, _ => by
    rw [q_X1_pairs_14.eq_2, q_X7_pairs_14.eq_2, if_pos ((nIle (by omega) (by omega)).mpr (by omega)), if_pos ((nIle (by omega) (by omega)).mpr (by omega))]
    unfold q_X1_pairs_45 q_X7_pairs_58
    rw [nI1]
    exact ⟨c, rfl, rfl⟩
  | r + 1, v, fuel + 1, c, hv, hf => by
    have go := fun c => pairs_in hn h hu k1 k2 r (v + 1) fuel c (by omega) (by omega)
    rw [q_X1_pairs_14.eq_2, q_X7_pairs_14.eq_2, if_neg (fun q => absurd ((nIle (by omega) (by omega)).mp q) (by omega)), if_neg (fun q => absurd ((nIle (by omega) (by omega)).mp q) (by omega))]
    simp only [nI1, show ∀ z : Int32, z + 0 = z from fun z => by rw [Int32.add_zero]]
    by_cases c1 : nI u = nI v
    · rw [if_pos c1, if_pos c1]; exact go c
    · rw [if_neg c1, if_neg c1]
      rcases leadsC hn h hu (show v < n by omega) with ⟨q1, q2, q3, q4⟩ | ⟨q1, -, -, q2, q3, q4⟩
      · rw [q2, q3, bsome, bsome, q4, bsome, z1, z1]; exact go c
      · rw [q2, q3, bsome, bsome, q4, bsome, z0, z0]; exact go _
theorem pairs_out (hn : n ≤ 10) {R : Nat → Int32} (h : GM n G R) : ∀ (r u fuel : Nat) (c : Int32), u + r = n → r < fuel → ∃ z, q_X1_pairs_4 G (nI n) fuel (nI u) c = some z ∧ q_X7_pairs_4 (nI n) R fuel (nI u) c = some z
  | r, u, 0, c, _, hf => absurd hf (Nat.not_lt_zero _)
  | 0, u, fuel + 1, c, hv, _ => by
    rw [q_X1_pairs_4.eq_2, q_X7_pairs_4.eq_2, if_pos ((nIle (by omega) (by omega)).mpr (by omega)), if_pos ((nIle (by omega) (by omega)).mpr (by omega))]
    exact ⟨c, rfl, rfl⟩
  | r + 1, u, fuel + 1, c, hv, hf => by
    obtain ⟨z, g1, g2⟩ := pairs_in hn h (show u < n by omega) (q_X1_pairs_4 G (nI n) fuel) (q_X7_pairs_4 (nI n) R fuel) n 0 FU c (by omega) (by unfold FU; omega)
    rw [q_X1_pairs_4.eq_2, q_X7_pairs_4.eq_2, if_neg (fun q => absurd ((nIle (by omega) (by omega)).mp q) (by omega)), if_neg (fun q => absurd ((nIle (by omega) (by omega)).mp q) (by omega))]
    show ∃ z, q_X1_pairs_14 G (nI n) _ FU (nI 0) (nI u) c = some z ∧ q_X7_pairs_14 (nI n) R _ FU (nI 0) (nI u) c = some z
    rw [g1, g2]
    exact pairs_out hn h r (u + 1) fuel z (by omega) (by omega)
theorem float_loop (hS : SM n m k f t w row) : ∀ (r u fuel : Nat) (c : Int32), u + r = n → r < fuel → ∃ z, q_X6_floatingOnes_4 k (nI n) fuel (nI u) c = some z ∧ q_X7_floatingMany_4 (nI n) row fuel (nI u) c = some z
  | r, u, 0, c, _, hf => absurd hf (Nat.not_lt_zero _)
  | 0, u, fuel + 1, c, hv, _ => by
    have hn := hS.n10
    rw [q_X6_floatingOnes_4.eq_2, q_X7_floatingMany_4.eq_2, if_pos ((nIle (by omega) (by omega)).mpr (by omega)), if_pos ((nIle (by omega) (by omega)).mpr (by omega))]
    exact ⟨c, rfl, rfl⟩
  | r + 1, u, fuel + 1, c, hv, hf => by
    have hn := hS.n10
    obtain ⟨b, hb, g1, g2⟩ := floatC hS (show u < n by omega)
    rw [q_X6_floatingOnes_4.eq_2, q_X7_floatingMany_4.eq_2, if_neg (fun q => absurd ((nIle (by omega) (by omega)).mp q) (by omega)), if_neg (fun q => absurd ((nIle (by omega) (by omega)).mp q) (by omega)), g1, g2]
    simp only [bsome, nI1, show ∀ z : Int32, z + 0 = z from fun z => by rw [Int32.add_zero]]
    rcases hb with rfl | rfl
    · rw [z1, z1]; exact float_loop hS r (u + 1) fuel c (by omega) (by omega)
    · rw [z0, z0]; exact float_loop hS r (u + 1) fuel _ (by omega) (by omega)
theorem e_count (hS : SM n m k f t w row) (hL : LG n m f t w G) (R0 e0 : Nat → Int32) (ru rq rr xn ms a : Int32) : ∃ r R e, p_X6_count ru rq rr xn k (nI n) (nI m) ms G (nI n) a = some r ∧ p_X7_count xn (nI n) row ru rq rr ms R0 e0 a = some (r, R, e) := by
  have hn := hS.n10
  obtain ⟨R, e, g1, g2, -⟩ := hS.find hL R0 e0
  unfold p_X6_count p_X7_count
  rw [g1]
  show ∃ r R9 e9, _ ∧ (if a = 0 then some (nI n, R, e) else if a = 1 then (rd row 59 10).bind fun x6 => some (x6, R, e) else if a = 2 then some (rr, R, e) else if a = 3 then (p_X7_greatest (nI n) R).bind fun r11 => some (r11, R, e) else if a = 4 then (p_X7_floatingMany (nI n) row).bind fun r14 => some (r14, R, e) else if a = 5 then some (ms, R, e) else if a = 6 then some (ru, R, e) else if a = 7 then some (rq, R, e) else if a = 8 then some (xn, R, e) else if a = 9 then (p_X7_pairs (nI n) R).bind fun r21 => some (r21, R, e) else some (-1, R, e)) = _
  by_cases c0 : a = 0
  · rw [if_pos c0, if_pos c0]; exact ⟨_, R, e, rfl, rfl⟩
  rw [if_neg c0, if_neg c0]
  by_cases c1 : a = 1
  · rw [if_pos c1, if_pos c1, show rd row 59 10 = some (row 10) from rd_nI (k := 10) (by omega) (by omega), hS.1]; exact ⟨_, R, e, rfl, rfl⟩
  rw [if_neg c1, if_neg c1]
  by_cases c2 : a = 2
  · rw [if_pos c2, if_pos c2]; exact ⟨_, R, e, rfl, rfl⟩
  rw [if_neg c2, if_neg c2]
  by_cases c3 : a = 3
  · rw [if_pos c3, if_pos c3]
    obtain ⟨z, q1, q2⟩ := great_loop hn g2 n 0 FU 0 (by omega) (by unfold FU; omega)
    unfold p_X1_greatestValue p_X7_greatest
    exact ⟨z, R, e, by show (q_X1_greatestValue_4 _ _ FU (nI 0) _).bind _ = _; rw [q1, bsome], by show (q_X7_greatest_4 _ _ FU (nI 0) _).bind _ = _; rw [q2, bsome]⟩
  rw [if_neg c3, if_neg c3]
  by_cases c4 : a = 4
  · rw [if_pos c4, if_pos c4]
    obtain ⟨z, q1, q2⟩ := float_loop hS n 0 FU 0 (by omega) (by unfold FU; omega)
    unfold p_X6_floatingOnes p_X7_floatingMany
    exact ⟨z, R, e, by show (q_X6_floatingOnes_4 _ _ FU (nI 0) _).bind _ = _; rw [q1, bsome], by show (q_X7_floatingMany_4 _ _ FU (nI 0) _).bind _ = _; rw [q2, bsome]⟩
  rw [if_neg c4, if_neg c4]
  by_cases c5 : a = 5
  · rw [if_pos c5, if_pos c5]; exact ⟨_, R, e, rfl, rfl⟩
  rw [if_neg c5, if_neg c5]
  by_cases c6 : a = 6
  · rw [if_pos c6, if_pos c6]; exact ⟨_, R, e, rfl, rfl⟩
  rw [if_neg c6, if_neg c6]
  by_cases c7 : a = 7
  · rw [if_pos c7, if_pos c7]; exact ⟨_, R, e, rfl, rfl⟩
  rw [if_neg c7, if_neg c7]
  by_cases c8 : a = 8
  · rw [if_pos c8, if_pos c8]; exact ⟨_, R, e, rfl, rfl⟩
  rw [if_neg c8, if_neg c8]
  by_cases c9 : a = 9
  · rw [if_pos c9, if_pos c9]
    obtain ⟨z, q1, q2⟩ := pairs_out hn g2 n 0 FU 0 (by omega) (by unfold FU; omega)
    unfold p_X1_pairs p_X7_pairs
    exact ⟨z, R, e, by show (q_X1_pairs_4 _ _ FU (nI 0) _).bind _ = _; rw [q1, bsome], by show (q_X7_pairs_4 _ _ FU (nI 0) _).bind _ = _; rw [q2, bsome]⟩
  rw [if_neg c9, if_neg c9]
  exact ⟨_, R, e, rfl, rfl⟩
end
