/-! the round: both go by the same levels -/
section
variable {n m : Nat} {f t w : Nat → Int32} {G : Nat → Nat → Int32} {R ed : Nat → Int32}
theorem Nx.lt (hg : gOK n m f t w) {e x k y : Nat} (h : Nx f t w m e x k y) : y < n := by
  obtain ⟨b, h1, h2, h3, -⟩ := h
  rw [← h3]
  exact (hg.at h1).2.2.2.1
theorem Nx.ex {e x k : Nat} (h : Lk (Ed f t w m 0) e (k + 1) x) : ∃ y, Nx f t w m e x k y := by
  obtain ⟨y, d, r, ⟨b, b1, b2, b3, b4, b5⟩, h2, h3, h4⟩ := Lk.succ.mp h
  subst b3 b4 b5
  exact ⟨_, b, b1, rfl, rfl, ⟨r, h2, h3⟩, r, h2, h4⟩
theorem Nx.min (hg : gOK n m f t w) {e x k y : Nat} (h : Nx f t w m e x k y) (hmin : ∀ j, j < k + 1 → ¬ Lk (Ed f t w m 0) e j x) : ∀ j, j < k → ¬ Lk (Ed f t w m 0) e j y := by
  intro j hj ⟨r', q1, q2⟩
  obtain ⟨b, b1, b2, b3, ⟨r, g1, g2⟩, -⟩ := h
  subst b2 b3
  have := q1.uniq g1
  subst this
  exact hmin (j + 1) (by omega) (Lk.succ.mpr ⟨_, _, r', hg.ed b1, q1, g2, q2⟩)
theorem nx_cell (hg : gOK n m f t w) {e x k y : Nat} (hk : k < 10) (hE : EdOK (Ed f t w m 0) ed) {bb : Nat → Int32} (hx : x < n) (hy : y < n) (hL1 : Lk (Ed f t w m 0) e (k + 1) x) (hN : NPC (Ed f t w m 0)) (h1 : byC (Ed f t w m 0) e (k + 1) x (bb (10 * (k + 1) + x))) (h2 : byC (Ed f t w m 0) e k y (bb (10 * k + y))) : (¬ Nx f t w m e x k y ∧ p_X7_isWay (ed (10 * x + y)) = some 0) ∨ (p_X7_isWay (ed (10 * x + y)) = some 1 ∧ (ed (10 * x + y) + bb (10 * k + y) = bb (10 * (k + 1) + x) ↔ Nx f t w m e x k y)) := by
  have hn := hg.1
  rcases hE x y (by omega) (by omega) with ⟨d1, e1, e2, e3⟩ | ⟨e1, e2⟩
  · have hd1 := hg.ten 0 _ _ _ e1
    refine Or.inr ⟨isWay_yes (by omega), ?_⟩
    obtain ⟨rx, m1, m2⟩ := hL1
    have hrx := m1.bd (hg.inV 0) hN (hg.ten 0) hn hx
    have hbx : (bb (10 * (k + 1) + x)).toInt = rx := by
      rcases h1 with ⟨d, q1, q2, q3⟩ | ⟨q1, q2⟩
      · have a1 := q2 _ m2
        have a2 := m1.2 _ _ q1
        omega
      · exact (q1 _ m2).elim
    rcases h2 with ⟨d2, q1, q2, q3⟩ | ⟨q1, q2⟩
    · have hd2 := Wk.ten (hg.ten 0) (by omega) q1
      have es : (ed (10 * x + y) + bb (10 * k + y)).toInt = d1 + d2 := by rw [tadd (by omega) (by omega), e3, q3]
      constructor
      · intro q
        have q' := teq.mp q
        have s : d2 = rx - d1 := by omega
        subst s
        have m3 := m1.tail e1 q1
        obtain ⟨b, b1, b2, b3, b4, b5⟩ := e1
        subst b3 b4 b5
        exact ⟨b, b1, rfl, rfl, ⟨_, m3, by rw [show (w b).toInt + (rx - (w b).toInt) = rx by omega]; exact m1⟩, _, m3, q1⟩
      · rintro ⟨b, b1, b2, b3, ⟨r, g1, g2⟩, r', g3, g4⟩
        subst b2 b3
        have a1 := g3.uniq g1
        subst a1
        have a2 := q2 _ g4
        have a3 := g1.2 _ _ q1
        have a4 := e2 _ (hg.ed b1)
        have a5 := g2.uniq m1
        have a6 := m1.2 (k + 1) (d1 + d2) ⟨_, d1, e1, by rw [show d1 + d2 - d1 = d2 by omega]; exact q1⟩
        exact teq.mpr (by omega)
    · constructor
      · intro q
        have q' := teq.mp q
        rw [tadd (by rw [q2, tFAR]; omega) (by rw [q2, tFAR]; omega), q2, tFAR] at q'
        omega
      · rintro ⟨b, b1, b2, b3, -, r', g3, g4⟩
        exact (q1 _ g4).elim
  · refine Or.inl ⟨?_, isWay_no (by rw [e2, tFAR]; omega)⟩
    rintro ⟨b, b1, b2, b3, -⟩
    subst b2 b3
    exact e1 _ (hg.ed b1)
theorem nx_search (hg : gOK n m f t w) (hN : NPC (Ed f t w m 0)) {e x k y0 : Nat} (hk : k < 10) (hE : EdOK (Ed f t w m 0) ed) {bb : Nat → Int32} (hx : x < n) (hL1 : Lk (Ed f t w m 0) e (k + 1) x) (h1 : byC (Ed f t w m 0) e (k + 1) x (bb (10 * (k + 1) + x))) (h2 : ∀ y, y < n → byC (Ed f t w m 0) e k y (bb (10 * k + y))) (h0 : Nx f t w m e x k y0) (hl : ∀ y, y < y0 → ¬ Nx f t w m e x k y) (a1 a2 a3 : Int32) (k213 : Int32 → Int32 → Int32 → Int32 → (Nat → Int32) → (Nat → Int32) → Option (Int32 × Int32 × (Nat → Int32) × (Nat → Int32))) (rm ro : Int32) (rnd : Nat → Int32) : ∀ (r y fuel : Nat), y + r = y0 → r < fuel → q_X7_findRound_221 (nI n) R ed a1 a2 a3 k213 fuel (nI y) (nI (k + 1)) (nI x) rm ro rnd bb = q_X7_findRound_292 (nI n) R ed a1 a2 a3 k213 (nI y0) (nI (k + 1)) rm ro rnd bb
  | r, y, 0, _, hf => absurd hf (Nat.not_lt_zero _)
  | r, y, fuel + 1, hy, hf => by
    have hn := hg.1
    have hy0 := h0.lt hg
    have e1 : rd ed 100 (10 * nI x + nI y) = some (ed (10 * x + y)) := by rw [ten, rd_nI (by omega) (by omega)]
    have e2 : rd bb 110 (10 * nI (k + 1) - 10 + nI y) = some (bb (10 * k + y)) := by rw [tenm, rd_nI (by omega) (by omega)]
    have e3 : rd bb 110 (10 * nI (k + 1) + nI x) = some (bb (10 * (k + 1) + x)) := by rw [ten, rd_nI (by omega) (by omega)]
    rw [q_X7_findRound_221.eq_2]
    simp only [e1, e2, e3, bsome, nI1]
    have cell := nx_cell hg (y := y) hk hE (bb := bb) hx (by omega) hL1 hN h1 (h2 y (by omega))
    cases r with
    | zero =>
      have : y = y0 := by omega
      subst this
      rcases cell with ⟨c1, c2⟩ | ⟨c1, c2⟩
      · exact (c1 h0).elim
      · rw [c1, bsome, z0, if_pos (c2.mpr h0)]
    | succ r =>
      have go := nx_search hg hN hk hE hx hL1 h1 h2 h0 hl a1 a2 a3 k213 rm ro rnd r (y + 1) fuel (by omega) (by omega)
      rcases cell with ⟨c1, c2⟩ | ⟨c1, c2⟩
      · rw [c2, bsome, z1]; exact go
      · rw [c1, bsome, z0, if_neg (fun q => hl y (by omega) (c2.mp q))]; exact go
theorem tr_walk (hg : gOK n m f t w) (hN : NPC (Ed f t w m 0)) (hL : LG n m f t w G) (hE : EdOK (Ed f t w m 0) ed) {e v : Nat} (he : e < n) (hv : v < n) {o bb : Nat → Int32} (hF : FWd (Ed f t w m 0) e n o) {K0 : Nat} (hb : byR (Ed f t w m 0) e n K0 bb) (l a3 ro : Int32) : ∀ (k i x fuel fuel2 : Nat) (O rnd : Nat → Int32), i + k ≤ 9 → k ≤ K0 → k < n → x < n → Lk (Ed f t w m 0) e k x → (∀ j, j < k → ¬ Lk (Ed f t w m 0) e j x) → (∀ j, j < i → O j = rnd j) → rnd i = nI x → k + 1 < fuel → k < fuel2 → ∃ O' rnd', q_X2_trace_19 f t w l (nI m) G (nI v) (nI e) fuel (nI i) (nI x) O o (nI i) = some (O', o, nI (i + k + 1)) ∧ q_X7_findRound_213 (nI n) R ed (nI v) (nI e) a3 fuel2 (nI k) (nI x) (nI (i + 1)) ro rnd bb = some (nI (i + k + 1), R (10 * v + e) + a3, rnd', bb) ∧ ∀ j, j < i + k + 1 → O' j = rnd' j
  | k, i, x, 0, fuel2, O, rnd, _, _, _, _, _, _, _, _, hf, _ => absurd hf (Nat.not_lt_zero _)
  | k, i, x, fuel + 1, 0, O, rnd, _, _, _, _, _, _, _, _, _, hf => absurd hf (Nat.not_lt_zero _)
  | 0, i, x, fuel + 1, fuel2 + 1, O, rnd, hi, hk, _, hx, h1, h2, h3, h4, hf, hf2 => by
    have hn := hg.1
    have hxe := (Lk.zero hN).mp h1
    subst hxe
    obtain ⟨fuel, rfl⟩ : ∃ q, fuel = q + 1 := ⟨fuel - 1, by omega⟩
    refine ⟨upd O i (nI x), rnd, ?_, ?_, fun j hj => ?_⟩
    · rw [q_X2_trace_19.eq_2, if_neg (show ¬ (10 : Int32) ≤ nI i from nI_ge (a := i) (b := 10) (by omega) (by omega)), if_neg (show ¬ nI x < 0 from fun q => by have := tlt.mp q; rw [tnI (by omega), tlit0] at this; omega), wr_nI (by omega) (by omega), bsome, if_pos rfl, nI1, q_X2_trace_19.eq_2]
      by_cases c : (10 : Int32) ≤ nI (i + 1)
      · rw [if_pos c]
      · rw [if_neg c, if_pos (by decide)]
    · rw [q_X7_findRound_213.eq_2, if_pos (show nI 0 ≤ 0 by decide)]
      unfold q_X7_findRound_323
      rw [ten, rd_nI (by omega) (by omega), bsome]
    · by_cases c : j = i
      · subst c; rw [updS, h4]
      · rw [updN c]; exact h3 j (by omega)
  | k + 1, i, x, fuel + 1, fuel2 + 1, O, rnd, hi, hk, hkn, hx, h1, h2, h3, h4, hf, hf2 => by
    have hn := hg.1
    have hxe : x ≠ e := fun q => h2 0 (by omega) ((Lk.zero hN).mpr q)
    obtain ⟨y1, hy1⟩ := Nx.ex h1
    obtain ⟨y0, -, g1, g2⟩ := least_one (P := Nx f t w m e x k) y1 hy1
    have hy0 := g1.lt hg
    have hLy : Lk (Ed f t w m 0) e k y0 := by obtain ⟨_, _, _, _, _, q⟩ := g1; exact q
    have hmy := g1.min hg h2
    have hox := hF.1 x (k + 1) hx hkn h1 h2
    have nx := nx_loop hg hN hL he hx hkn hF hox h2 g1 g2 m 0 FU (-4) (by omega) (by have := hg.2.1; unfold FU; omega) (Or.inl ⟨rfl, fun b' hb' => absurd hb' (Nat.not_lt_zero _)⟩)
    rw [nI_0] at nx
    obtain ⟨O', rnd', q1, q2, q3⟩ := tr_walk hg hN hL hE he hv hF hb l a3 ro k (i + 1) y0 fuel fuel2 (upd O i (nI x)) (upd rnd (i + 1) (nI y0)) (by omega) (by omega) (by omega) hy0 hLy hmy (fun j hj => by
      by_cases c : j = i
      · subst c; rw [updS, updN (by omega), h4]
      · rw [updN c, updN (by omega)]; exact h3 j (by omega)) (updS _ _ _) (by omega) (by omega)
    refine ⟨O', rnd', ?_, ?_, fun j hj => q3 j (by omega)⟩
    · rw [q_X2_trace_19.eq_2, if_neg (show ¬ (10 : Int32) ≤ nI i from nI_ge (a := i) (b := 10) (by omega) (by omega)), if_neg (show ¬ nI x < 0 from fun q => by have := tlt.mp q; rw [tnI (by omega), tlit0] at this; omega), wr_nI (by omega) (by omega), bsome, if_neg (fun q => hxe ((nI_inj (by omega) (by omega)).mp q))]
      unfold p_X2_nextLevel
      rw [nx, bsome, nI1, q1, show i + 1 + k + 1 = i + (k + 1) + 1 by omega]
    · have srch := nx_search (R := R) hg hN (by omega) hE hx h1 (hb.1 (k + 1) x hk hx) (fun y hy => hb.1 k y (by omega) hy) g1 g2 (nI v) (nI e) a3 (q_X7_findRound_213 (nI n) R ed (nI v) (nI e) a3 fuel2) (nI (i + 1)) ro rnd y0 0 FU (by omega) (by unfold FU; omega)
      rw [nI_0] at srch
      rw [q_X7_findRound_213.eq_2, if_neg (show ¬ nI (k + 1) ≤ 0 from fun q => by have := tle.mp q; rw [tnI (by omega), tlit0] at this; omega), srch]
      unfold q_X7_findRound_292
      have em : nI (k + 1) + (-1) = nI k := by
        have := nI_pred k
        rw [Int32.sub_eq_add_neg] at this
        exact this
      rw [wr_nI (by omega) (by omega), bsome, em, nI1, q2, show i + 1 + k + 1 = i + (k + 1) + 1 by omega]
/-- the round of a bound refused: the same levels, so much above -/
theorem e_trace (hg : gOK n m f t w) (hN : NPC (Ed f t w m 0)) (hL : LG n m f t w G) (hE : EdOK (Ed f t w m 0) ed) (hR : RcOK (Ed f t w m 0) n R) {e v : Nat} (he : e < n) (hv : v < n) {r : Int} (hm : Mx (Ed f t w m 0) v e r) (O On rnd bb0 : Nat → Int32) (Os rm ro a3 : Int32) : ∃ (c : Nat) (O' On' rnd' bb' : Nat → Int32), p_X2_trace O On Os f t w (nI n) (nI m) G (nI v) (nI e) = some (O', On', nI c) ∧ p_X7_findRound (nI n) rm ro rnd R ed bb0 (nI v) (nI e) a3 = some (nI c, R (10 * v + e) + a3, rnd', bb') ∧ c ≤ 10 ∧ ∀ j, j < c → O' j = rnd' j := by
  have hn := hg.1
  obtain ⟨K1, hK1, hk1⟩ := Lk.ex (hg.inV 0) hN hv hm
  obtain ⟨K0, hK0, hk0, hmin⟩ := least_one (P := fun k => Lk (Ed f t w m 0) e k v) K1 hk1
  obtain ⟨o, o1, o2⟩ := cf_ok hg hN hL he On
  obtain ⟨b1, i1, i2⟩ := by_init (R := R) (ed := ed) (e := e) (by omega) (nI v) a3 rm ro rnd (nI n) 110 0 FU bb0 (by omega) (by unfold FU; omega) (fun q hq => absurd hq (Nat.not_lt_zero _))
  have hby0 : byR (Ed f t w m 0) e n 0 b1 := by
    refine ⟨fun j x hj hx => ?_, fun q hq hq' => by rw [i2 q hq', if_neg (by omega)]⟩
    have : j = 0 := by omega
    subst this
    rw [show 10 * 0 + x = x by omega, i2 x (by omega)]
    by_cases c : x = e
    · subst c
      rw [if_pos rfl]
      exact Or.inl ⟨0, ⟨rfl, rfl⟩, fun d' h => by rw [h.2]; omega, rfl⟩
    · rw [if_neg c]
      exact Or.inr ⟨fun d h => c h.1, rfl⟩
  obtain ⟨b2, j1, j2⟩ := by_loop hn (hg.inV 0) hN (hg.ten 0) hE hR hv he (by omega) hk0 hmin a3 rm ro rnd K0 0 FU b1 (by omega) (by unfold FU; omega) hby0
  rw [nI_0] at i1 j1
  obtain ⟨O', rnd', q1, q2, q3⟩ := tr_walk (R := R) hg hN hL hE he hv o2 j2 (nI n) a3 ro K0 0 v FU FU O (upd rnd 0 (nI v)) (by omega) (Nat.le_refl _) (by omega) hv hk0 hmin (fun j hj => absurd hj (Nat.not_lt_zero _)) (updS _ _ _) (by unfold FU; omega) (by unfold FU; omega)
  rw [nI_0] at q1
  refine ⟨0 + K0 + 1, O', o, rnd', b2, ?_, ?_, by omega, q3⟩
  · unfold p_X2_trace
    rw [o1, bsome]
    exact q1
  · unfold p_X7_findRound
    rw [i1]
    unfold q_X7_findRound_35
    rw [j1]
    unfold q_X7_findRound_194
    rw [show wr rnd 12 0 (nI v) = some (upd rnd 0 (nI v)) from wr_nI (k := 0) (by omega) (by omega), bsome]
    exact q2
end
