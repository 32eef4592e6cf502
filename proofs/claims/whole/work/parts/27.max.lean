/-! write, wipe, round; term, empty, brief, below, worth -/
def TXr (len : Nat) (X_c : Nat → Int32) (text : Nat → Int32) : Prop := len ≤ 200 ∧ ∀ i, i < len → X_c i = text i ∧ 32 ≤ (X_c i).toInt ∧ (X_c i).toInt ≤ 126
theorem e_write {len : Nat} {X_c text : Nat → Int32} (h : TXr len X_c text) (a : Int32) : ∃ r len' X' t', p_X6_write X_c (nI len) a = some (r, X', nI len') ∧ p_X7_write (nI len) text a = some (r, nI len', t') ∧ TXr len' X' t' := by
  obtain ⟨h1, h2⟩ := h
  have t32 : (32 : Int32).toInt = 32 := by decide
  have t126 : (126 : Int32).toInt = 126 := by decide
  unfold p_X6_write p_X7_write p_X5_append
  rcases ii (x := a) (L := 32) (H := 126) (a := 32) (b := 126) (by decide) (by decide) with ⟨b1, b2, b3⟩ | ⟨b1, b3⟩
  · rw [b3, if_neg (fun q => by have := tlt.mp q; omega), if_pos (tle.mpr (by omega)), bsome, z0]
    by_cases hc : len = 200
    · subst hc
      rw [if_neg (show ¬ nI 200 < 200 by decide), if_pos (show nI 200 = 200 from rfl)]
      exact ⟨-3, 200, X_c, text, rfl, rfl, by omega, h2⟩
    · rw [if_pos (show nI len < 200 from nI_lt (a := len) (b := 200) (by omega) (by omega)), if_neg (show ¬ nI len = 200 from fun q => hc ((nI_inj (b := 200) (by omega) (by omega)).mp q)), wr_nI (by omega) (by omega), wr_nI (by omega) (by omega), nI1]
      refine ⟨nI (len + 1), len + 1, _, _, rfl, rfl, by omega, fun i hi => ?_⟩
      by_cases hi2 : i = len
      · subst hi2; rw [updS, updS]; exact ⟨rfl, b1, b2⟩
      · rw [updN hi2, updN hi2]; exact h2 i (by omega)
  · rw [b3]
    refine ⟨-1, len, X_c, text, ?_, rfl, h1, h2⟩
    by_cases c : a < 32
    · rw [if_pos c]
    · have c' : ¬ a.toInt < 32 := fun q => c (tlt.mpr (by omega))
      rw [if_neg c, if_neg (fun q => by have := tle.mp q; omega)]
theorem e_wipe (l : Int32) : p_X6_wipe l = some (l, nI 0) ∧ p_X7_wipe l = some (l, nI 0) := ⟨rfl, rfl⟩
def RNr (c : Nat) (O_v rnd : Nat → Int32) (O_a over : Int32) : Prop := c ≤ 10 ∧ (∀ i, i < c → O_v i = rnd i) ∧ (c ≠ 0 → O_a = over)
theorem e_round {c : Nat} {O_v rnd : Nat → Int32} {O_a over : Int32} (h : RNr c O_v rnd O_a over) (a : Int32) : ∃ r, p_X6_round O_v (nI c) O_a a = some r ∧ p_X7_round (nI c) over rnd a = some r := by
  obtain ⟨h1, h2, h3⟩ := h
  have tm1 : (-1 : Int32).toInt = -1 := by decide
  have t10 : (10 : Int32).toInt = 10 := by decide
  unfold p_X6_round p_X7_round
  rcases ii (x := a) (L := -1) (H := 10) (a := -1) (b := 10) (by decide) (by decide) with ⟨b1, b2, b3⟩ | ⟨b1, b3⟩
  · rw [b3, if_neg (fun q => by have := tlt.mp q; omega), if_pos (tle.mpr (by omega)), bsome, z0]
    by_cases hc : c = 0
    · subst hc; exact ⟨-4, rfl, rfl⟩
    · have hz : ¬ nI c = 0 := nI_ne0 (by omega) (by omega)
      rw [if_neg hz, if_neg hz]
      by_cases ha : a = -1
      · subst ha
        rw [if_pos rfl, if_neg (show ¬ (0 : Int32) ≤ -1 by decide)]
        exact ⟨_, rfl, rfl⟩
      · have ha' : 0 ≤ a.toInt := by have := lv_neT ha tm1; omega
        rw [if_neg ha, if_pos (show (0 : Int32) ≤ a from tle.mpr ha')]
        by_cases hb : a = 10
        · rw [if_pos hb, if_pos hb]; exact ⟨_, rfl, by rw [h3 hc]⟩
        · have hb' := lv_neT hb t10
          rw [if_neg hb, if_neg hb]
          obtain ⟨k1, k2, k3⟩ := isI (n := 10) ha' (by omega)
          generalize a.toNatClampNeg = i at k1 k2
          subst k1
          by_cases hi : nI c ≤ nI i
          · rw [if_pos hi, if_pos hi]; exact ⟨-4, rfl, rfl⟩
          · rw [if_neg hi, if_neg hi, rd_nI (by omega) (by omega), rd_nI (by omega) (by omega), h2 i (Nat.not_le.mp fun q => hi (nI_le q (by omega)))]
            exact ⟨_, rfl, rfl⟩
  · rw [b3]
    refine ⟨-1, ?_, rfl⟩
    by_cases c : a < -1
    · rw [if_pos c]
    · have c' : ¬ a.toInt < -1 := fun q => c (tlt.mpr (by omega))
      rw [if_neg c, if_neg (fun q => by have := tle.mp q; omega)]
def MXr (n c : Nat) (M_v M_m tl ta : Nat → Int32) : Prop := c ≤ 6 ∧ ∀ i, i < c → M_v i = tl i ∧ M_m i = ta i ∧ (∃ x, x < n ∧ tl i = nI x) ∧ -9 ≤ (ta i).toInt ∧ (ta i).toInt ≤ 9
theorem e_term {n c : Nat} {M_v M_m tl ta : Nat → Int32} (hn : n ≤ 10) (h : MXr n c M_v M_m tl ta) (a b : Int32) : ∃ r c' v' m' l' a', p_X6_term (nI n) M_v M_m (nI c) a b = some (r, v', m', nI c') ∧ p_X7_term (nI n) (nI c) tl ta a b = some (r, nI c', l', a') ∧ MXr n c' v' m' l' a' := by
  unfold p_X6_term p_X7_term p_X3_add
  rcases lvC hn a with ⟨h1, h2⟩ | ⟨u, hu, rfl, h1, h2⟩
  · rw [h1, h2]; exact ⟨-1, c, M_v, M_m, tl, ta, rfl, rfl, h⟩
  rw [h1, h2, bsome, bsome, z0, z0]
  rcases kC b with ⟨h3, h4⟩ | ⟨b1, b2, h3, h4⟩
  · rw [h3, h4]; exact ⟨-1, c, M_v, M_m, tl, ta, rfl, rfl, h⟩
  rw [h3, h4, bsome, bsome, z0, z0]
  obtain ⟨g1, g2⟩ := h
  by_cases hc : c = 6
  · subst hc
    rw [if_neg (show ¬ nI 6 < 6 by decide), if_pos (show nI 6 = 6 from rfl)]
    exact ⟨-3, 6, M_v, M_m, tl, ta, rfl, rfl, by omega, g2⟩
  · rw [if_pos (show nI c < 6 from nI_lt (a := c) (b := 6) (by omega) (by omega)), if_neg (show ¬ nI c = 6 from fun q => hc ((nI_inj (b := 6) (by omega) (by omega)).mp q)), if_neg (show ¬ (10 : Int32) ≤ nI c from nI_ge (a := c) (b := 10) (by omega) (by omega)), wr_nI (by omega) (by omega), wr_nI (by omega) (by omega), wr_nI (by omega) (by omega), wr_nI (by omega) (by omega), nI1]
    refine ⟨nI (c + 1), c + 1, _, _, _, _, rfl, rfl, by omega, fun i hi => ?_⟩
    by_cases hi2 : i = c
    · subst hi2; rw [updS, updS, updS, updS]; exact ⟨rfl, rfl, ⟨u, hu, rfl⟩, b1, b2⟩
    · rw [updN hi2, updN hi2, updN hi2, updN hi2]; exact g2 i (by omega)
theorem e_empty (c : Int32) : p_X6_empty c = some (c, nI 0) ∧ p_X7_empty c = some (c, nI 0) := ⟨rfl, rfl⟩
section
variable {n m : Nat} {k f t w row : Nat → Int32} {G : Nat → Nat → Int32}
theorem nmC (hn : n ≤ 10) {R : Nat → Int32} (hG : GM n G R) {c : Nat} {M_v M_m tl ta : Nat → Int32} (h : MXr n c M_v M_m tl ta) {i j : Nat} (hi : i < c) (hj : j < c) : ∃ r, (r = 0 ∨ r = 1) ∧ p_X3_isNoMore M_v M_m G (nI i) (nI j) = some r ∧ p_X7_isNoMore tl ta R (nI i) (nI j) = some r := by
  have hc := h.1
  obtain ⟨a1, a2, ⟨x, hx, a3⟩, -⟩ := h.2 i hi
  obtain ⟨b1, b2, ⟨y, hy, b3⟩, -⟩ := h.2 j hj
  obtain ⟨r, hr, q1, q2⟩ := soC hn hG hx hy (ta i - ta j)
  have e1 : rd M_v 10 (nI i) = some (nI x) := by rw [rd_nI (by omega) (by omega), a1, a3]
  have e2 : rd M_v 10 (nI j) = some (nI y) := by rw [rd_nI (by omega) (by omega), b1, b3]
  have e3 : rd M_m 10 (nI i) = some (ta i) := by rw [rd_nI (by omega) (by omega), a2]
  have e4 : rd M_m 10 (nI j) = some (ta j) := by rw [rd_nI (by omega) (by omega), b2]
  have e5 : rd tl 6 (nI i) = some (nI x) := by rw [rd_nI (by omega) (by omega), a3]
  have e6 : rd tl 6 (nI j) = some (nI y) := by rw [rd_nI (by omega) (by omega), b3]
  have e7 : rd ta 6 (nI i) = some (ta i) := rd_nI (by omega) (by omega)
  have e8 : rd ta 6 (nI j) = some (ta j) := rd_nI (by omega) (by omega)
  unfold p_X3_isNoMore p_X7_isNoMore
  simp only [e1, e2, e3, e4, e5, e6, e7, e8, bsome, q1, q2]
  refine ⟨r, hr, ?_, ?_⟩ <;> rcases hr with rfl | rfl <;> rfl
theorem brief_cov (hn : n ≤ 10) {R e : Nat → Int32} {c : Nat} (hc : c ≤ 6) {tl ta : Nat → Int32} (k8 : Int32 → Int32 → (Nat → Int32) → (Nat → Int32) → Option (Int32 × (Nat → Int32) × (Nat → Int32))) (i : Nat) (s : Int32) : ∀ (r j fuel : Nat), j + r = c → r < fuel → q_X7_brief_21 (nI n) row (nI c) tl ta k8 fuel (nI j) 1 (nI i) s R e = k8 (nI (i + 1)) s R e
  | r, j, 0, _, hf => absurd hf (Nat.not_lt_zero _)
  | 0, j, fuel + 1, hj, _ => by
    rw [q_X7_brief_21.eq_2, if_pos (nI_le (a := c) (b := j) (by omega) (by omega))]
    unfold q_X7_brief_78
    rw [z0, nI1, Int32.or_zero]
  | r + 1, j, fuel + 1, hj, hf => by
    rw [q_X7_brief_21.eq_2, if_neg (nI_ge (a := j) (b := c) (by omega) (by omega)), z0, nI1]
    exact brief_cov hn hc k8 i s r (j + 1) fuel (by omega) (by omega)
theorem brief_in (hn : n ≤ 10) {R e : Nat → Int32} (hG : GM n G R) {c : Nat} {M_v M_m tl ta : Nat → Int32} (h : MXr n c M_v M_m tl ta) (k8 : Int32 → Int32 → (Nat → Int32) → (Nat → Int32) → Option (Int32 × (Nat → Int32) × (Nat → Int32))) {i : Nat} (hi : i < c) (s : Int32) : ∀ (r j fuel fuel2 : Nat), j + r = c → r < fuel → r < fuel2 → (q_X3_isShort_2 M_v M_m (nI c) G (nI i) fuel (nI j) = some 0 ∧ q_X7_brief_21 (nI n) row (nI c) tl ta k8 fuel2 (nI j) 0 (nI i) s R e = k8 (nI (i + 1)) s R e) ∨ (q_X3_isShort_2 M_v M_m (nI c) G (nI i) fuel (nI j) = some 1 ∧ q_X7_brief_21 (nI n) row (nI c) tl ta k8 fuel2 (nI j) 0 (nI i) s R e = k8 (nI (i + 1)) (s ||| (1 <<< (nI i &&& 31))) R e)
  | r, j, 0, _, _, hf, _ => absurd hf (Nat.not_lt_zero _)
  | r, j, _, 0, _, _, hf => absurd hf (Nat.not_lt_zero _)
  | 0, j, fuel + 1, fuel2 + 1, hj, _, _ => by
    have hc := h.1
    rw [q_X3_isShort_2.eq_2, q_X7_brief_21.eq_2, if_pos (nI_le (a := c) (b := j) (by omega) (by omega)), if_pos (nI_le (a := c) (b := j) (by omega) (by omega))]
    unfold q_X7_brief_78
    rw [z1, nI1]
    exact Or.inr ⟨rfl, rfl⟩
  | r + 1, j, fuel + 1, fuel2 + 1, hj, hf, hf2 => by
    have hc := h.1
    have go := brief_in hn (e := e) hG h k8 hi s r (j + 1) fuel fuel2 (by omega) (by omega) (by omega)
    have cov := brief_cov (row := row) (tl := tl) (ta := ta) hn (R := R) (e := e) hc k8 i s r (j + 1) fuel2 (by omega) (by omega)
    rw [q_X3_isShort_2.eq_2, q_X7_brief_21.eq_2, if_neg (nI_ge (a := j) (b := c) (by omega) (by omega)), if_neg (nI_ge (a := j) (b := c) (by omega) (by omega)), z1, nI1]
    by_cases hij : j = i
    · subst hij
      rw [if_pos rfl, if_pos rfl]
      exact go
    · rw [if_neg (fun q => hij ((nI_inj (by omega) (by omega)).mp q)), if_neg (fun q => hij ((nI_inj (by omega) (by omega)).mp q).symm)]
      obtain ⟨r1, hr1, p1, p2⟩ := nmC hn hG h hi (show j < c by omega)
      obtain ⟨r2, hr2, p3, p4⟩ := nmC hn hG h (show j < c by omega) hi
      unfold p_X3_isCovered
      rw [p1, p2, p3, p4]
      simp only [bsome]
      rcases hr1 with rfl | rfl
      · simp only [z1, bsome]; exact go
      · simp only [z0]
        by_cases hlt : nI j < nI i
        · simp only [if_pos hlt, bsome, z0]; first | exact Or.inl ⟨rfl, cov⟩ | exact Or.inl ⟨trivial, cov⟩
        · simp only [if_neg hlt]
          rcases hr2 with rfl | rfl
          · simp only [z1, bsome, z0]; first | exact Or.inl ⟨rfl, cov⟩ | exact Or.inl ⟨trivial, cov⟩
          · simp only [z0, bsome, z1]; exact go
theorem brief_out (hn : n ≤ 10) {R e : Nat → Int32} (hG : GM n G R) {c : Nat} {M_v M_m tl ta : Nat → Int32} (h : MXr n c M_v M_m tl ta) : ∀ (r i fuel : Nat) (s : Int32), i + r = c → r < fuel → ∃ z, q_X6_brief_4 M_v M_m (nI c) G fuel (nI i) s = some z ∧ q_X7_brief_8 (nI n) row (nI c) tl ta fuel (nI i) s R e = some (z, R, e)
  | r, i, 0, s, _, hf => absurd hf (Nat.not_lt_zero _)
  | 0, i, fuel + 1, s, hi, _ => by
    have hc := h.1
    rw [q_X6_brief_4.eq_2, q_X7_brief_8.eq_2, if_pos (nI_le (a := c) (b := i) (by omega) (by omega)), if_pos (nI_le (a := c) (b := i) (by omega) (by omega))]
    exact ⟨s, rfl, rfl⟩
  | r + 1, i, fuel + 1, s, hi, hf => by
    have hc := h.1
    rw [q_X6_brief_4.eq_2, q_X7_brief_8.eq_2, if_neg (nI_ge (a := i) (b := c) (by omega) (by omega)), if_neg (nI_ge (a := i) (b := c) (by omega) (by omega))]
    unfold p_X3_isShort
    show ∃ z, (q_X3_isShort_2 M_v M_m (nI c) G (nI i) FU (nI 0)).bind _ = some z ∧ q_X7_brief_21 (nI n) row (nI c) tl ta _ FU (nI 0) 0 (nI i) s R e = some (z, R, e)
    rcases brief_in hn (e := e) hG h (row := row) (q_X7_brief_8 (nI n) row (nI c) tl ta fuel) (show i < c by omega) s c 0 FU FU (by omega) (by unfold FU; omega) (by unfold FU; omega) with ⟨q1, q2⟩ | ⟨q1, q2⟩
    · rw [q1, q2, bsome, z1, nI1]; exact brief_out hn hG h r (i + 1) fuel s (by omega) (by omega)
    · rw [q1, q2, bsome, z0, nI1]; exact brief_out hn hG h r (i + 1) fuel _ (by omega) (by omega)
theorem e_brief (hS : SM n m k f t w row) (hL : LG n m f t w G) {c : Nat} {M_v M_m tl ta : Nat → Int32} (h : MXr n c M_v M_m tl ta) (R0 e0 : Nat → Int32) : ∃ r R e, p_X6_brief M_v M_m (nI c) G = some r ∧ p_X7_brief (nI n) row (nI c) tl ta R0 e0 = some (r, R, e) := by
  obtain ⟨R, e, g1, g2, -⟩ := hS.find hL R0 e0
  obtain ⟨z, q1, q2⟩ := brief_out (row := row) hS.n10 (e := e) g2 h c 0 FU 0 (by omega) (by have := h.1; unfold FU; omega)
  rw [nI_0] at q1 q2
  refine ⟨z, R, e, ?_, ?_⟩
  · unfold p_X6_brief; exact q1
  · unfold p_X7_brief; rw [g1]; exact bsome.trans q2
theorem below_off (hn : n ≤ 10) {R e : Nat → Int32} {c : Nat} (hc : c ≤ 6) {tl ta : Nat → Int32} (a b : Int32) : ∀ (r i fuel : Nat), i + r = c → r < fuel → q_X7_below_26 (nI n) row (nI c) tl ta a b fuel (nI i) 0 R e = some (0, R, e)
  | r, i, 0, _, hf => absurd hf (Nat.not_lt_zero _)
  | 0, i, fuel + 1, hi, _ => by
    rw [q_X7_below_26.eq_2, if_pos (nI_le (a := c) (b := i) (by omega) (by omega)), z1]
  | r + 1, i, fuel + 1, hi, hf => by
    rw [q_X7_below_26.eq_2, if_neg (nI_ge (a := i) (b := c) (by omega) (by omega)), z1, nI1]
    exact below_off hn hc a b r (i + 1) fuel (by omega) (by omega)
theorem below_loop (hn : n ≤ 10) {R e : Nat → Int32} (hG : GM n G R) {c : Nat} {M_v M_m tl ta : Nat → Int32} (h : MXr n c M_v M_m tl ta) {v : Nat} (hv : v < n) (b : Int32) : ∀ (r i fuel : Nat), i + r = c → r < fuel → ∃ z, q_X6_below_19 (nI n) M_v M_m (nI c) G (nI v) b fuel (nI i) = some z ∧ q_X7_below_26 (nI n) row (nI c) tl ta (nI v) b fuel (nI i) 1 R e = some (z, R, e)
  | r, i, 0, _, hf => absurd hf (Nat.not_lt_zero _)
  | 0, i, fuel + 1, hi, _ => by
    have hc := h.1
    rw [q_X6_below_19.eq_2, q_X7_below_26.eq_2, if_pos (nI_le (a := c) (b := i) (by omega) (by omega)), if_pos (nI_le (a := c) (b := i) (by omega) (by omega)), z0]
    exact ⟨1, rfl, rfl⟩
  | r + 1, i, fuel + 1, hi, hf => by
    have hc := h.1
    obtain ⟨a1, a2, ⟨x, hx, a3⟩, -⟩ := h.2 i (by omega)
    obtain ⟨s, hs, q1, q2⟩ := soC hn hG hx hv (ta i - b)
    have e1 : rd M_v 10 (nI i) = some (nI x) := by rw [rd_nI (by omega) (by omega), a1, a3]
    have e3 : rd M_m 10 (nI i) = some (ta i) := by rw [rd_nI (by omega) (by omega), a2]
    have e5 : rd tl 6 (nI i) = some (nI x) := by rw [rd_nI (by omega) (by omega), a3]
    have e7 : rd ta 6 (nI i) = some (ta i) := rd_nI (by omega) (by omega)
    rw [q_X6_below_19.eq_2, q_X7_below_26.eq_2, if_neg (nI_ge (a := i) (b := c) (by omega) (by omega)), if_neg (nI_ge (a := i) (b := c) (by omega) (by omega)), z0, nI1]
    simp only [e1, e3, e5, e7, bsome, q1, q2]
    rcases hs with rfl | rfl
    · simp only [z1]
      exact ⟨0, rfl, below_off hn hc _ _ r (i + 1) fuel (by omega) (by omega)⟩
    · simp only [z0]
      exact below_loop hn hG h hv b r (i + 1) fuel (by omega) (by omega)
theorem e_below (hS : SM n m k f t w row) (hL : LG n m f t w G) {c : Nat} {M_v M_m tl ta : Nat → Int32} (h : MXr n c M_v M_m tl ta) (R0 e0 : Nat → Int32) (a b : Int32) : ∃ r R e, p_X6_below (nI n) M_v M_m (nI c) G a b = some r ∧ p_X7_below (nI n) row (nI c) tl ta R0 e0 a b = some (r, R, e) := by
  have hn := hS.n10
  unfold p_X6_below p_X7_below
  rcases lvC hn a with ⟨h1, h2⟩ | ⟨u, hu, rfl, h1, h2⟩
  · rw [h1, h2]; exact ⟨-1, R0, e0, rfl, rfl⟩
  rw [h1, h2, bsome, bsome, z0, z0]
  rcases kC b with ⟨h3, h4⟩ | ⟨b1, b2, h3, h4⟩
  · rw [h3, h4]; exact ⟨-1, R0, e0, rfl, rfl⟩
  obtain ⟨R, e, g1, g2, -⟩ := hS.find hL R0 e0
  obtain ⟨z, q1, q2⟩ := below_loop (row := row) hn (e := e) g2 h hu b c 0 FU (by omega) (by have := h.1; unfold FU; omega)
  rw [nI_0] at q1 q2
  refine ⟨z, R, e, ?_, ?_⟩
  · rw [h3, bsome, z0]; exact q1
  · rw [h4, bsome, z0, g1]; exact bsome.trans q2
theorem worth_loop (hn : n ≤ 10) {R e : Nat → Int32} (hG : GM n G R) {c : Nat} {M_v M_m tl ta : Nat → Int32} (h : MXr n c M_v M_m tl ta) : ∀ (r i fuel : Nat) (s : Int32), i + r = c → r < fuel → ∃ z, q_X6_worth_4 M_v M_m (nI c) G (nI n) fuel (nI i) s = some z ∧ q_X7_worth_8 (nI n) row (nI c) tl ta fuel (nI i) s R e = some (z, R, e)
  | r, i, 0, s, _, hf => absurd hf (Nat.not_lt_zero _)
  | 0, i, fuel + 1, s, hi, _ => by
    have hc := h.1
    rw [q_X6_worth_4.eq_2, q_X7_worth_8.eq_2, if_pos (nI_le (a := c) (b := i) (by omega) (by omega)), if_pos (nI_le (a := c) (b := i) (by omega) (by omega))]
    exact ⟨s, rfl, rfl⟩
  | r + 1, i, fuel + 1, s, hi, hf => by
    have hc := h.1
    obtain ⟨a1, a2, ⟨x, hx, a3⟩, -⟩ := h.2 i (by omega)
    obtain ⟨y, q1, q2, -⟩ := valC hn hG hx
    have e1 : rd M_v 10 (nI i) = some (nI x) := by rw [rd_nI (by omega) (by omega), a1, a3]
    have e3 : rd M_m 10 (nI i) = some (ta i) := by rw [rd_nI (by omega) (by omega), a2]
    have e5 : rd tl 6 (nI i) = some (nI x) := by rw [rd_nI (by omega) (by omega), a3]
    have e7 : rd ta 6 (nI i) = some (ta i) := rd_nI (by omega) (by omega)
    rw [q_X6_worth_4.eq_2, q_X7_worth_8.eq_2, if_neg (nI_ge (a := i) (b := c) (by omega) (by omega)), if_neg (nI_ge (a := i) (b := c) (by omega) (by omega)), nI1]
    simp only [e1, e3, e5, e7, bsome, q1, q2]
    by_cases cc : s < y + ta i
    · rw [if_pos cc, if_neg (fun q => by have := tle.mp q; have := tlt.mp cc; omega)]
      exact worth_loop hn hG h r (i + 1) fuel _ (by omega) (by omega)
    · have c' : ¬ s.toInt < (y + ta i).toInt := fun q => cc (tlt.mpr q)
      rw [if_neg cc, if_pos (tle.mpr (by omega))]
      exact worth_loop hn hG h r (i + 1) fuel s (by omega) (by omega)
theorem e_worth (hS : SM n m k f t w row) (hL : LG n m f t w G) {c : Nat} {M_v M_m tl ta : Nat → Int32} (h : MXr n c M_v M_m tl ta) (R0 e0 : Nat → Int32) : ∃ r R e, p_X6_worth M_v M_m (nI c) G (nI n) = some r ∧ p_X7_worth (nI n) row (nI c) tl ta R0 e0 = some (r, R, e) := by
  obtain ⟨R, e, g1, g2, -⟩ := hS.find hL R0 e0
  obtain ⟨z, q1, q2⟩ := worth_loop (row := row) hS.n10 (e := e) g2 h c 0 FU 0 (by omega) (by have := h.1; unfold FU; omega)
  rw [nI_0] at q1 q2
  refine ⟨z, R, e, ?_, ?_⟩
  · unfold p_X6_worth; exact q1
  · unfold p_X7_worth; rw [g1]; exact bsome.trans q2
end
