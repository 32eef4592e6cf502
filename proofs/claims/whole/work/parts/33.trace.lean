/-! the round, there: exact numbers of bounds -/
def byC (E : Nat → Nat → Int → Prop) (e j x : Nat) (c : Int32) : Prop := (∃ d, Wk E j x e d ∧ (∀ d', Wk E j x e d' → d' ≤ d) ∧ c.toInt = d) ∨ ((∀ d, ¬ Wk E j x e d) ∧ c = -100000)
def byR (E : Nat → Nat → Int → Prop) (e n K : Nat) (by' : Nat → Int32) : Prop := (∀ j x, j ≤ K → x < n → byC E e j x (by' (10 * j + x))) ∧ ∀ q, 10 * (K + 1) ≤ q → q < 110 → by' q = -100000
theorem Wk.ten {E : Nat → Nat → Int → Prop} (hB : ∀ x y d, E x y d → -10 ≤ d ∧ d ≤ 10) {j x e : Nat} {d : Int} (hj : j ≤ 10) (h : Wk E j x e d) : -100 ≤ d ∧ d ≤ 100 := by
  have := Wk.bd hB h
  omega
/-- a row's cell, over the first columns -/
def byP (E : Nat → Nat → Int → Prop) (e K x b : Nat) (c : Int32) : Prop := (∃ (y : Nat) (d1 d2 : Int), y < b ∧ E x y d1 ∧ Wk E K y e d2 ∧ (∀ y' d1' d2', y' < b → E x y' d1' → Wk E K y' e d2' → d1' + d2' ≤ d1 + d2) ∧ c.toInt = d1 + d2) ∨ ((∀ y' d1' d2', y' < b → E x y' d1' → ¬ Wk E K y' e d2') ∧ c = -100000)
theorem byP.all {E : Nat → Nat → Int → Prop} {e K x n : Nat} {c : Int32} (hV : InV E n) (h : byP E e K x n c) : byC E e (K + 1) x c := by
  rcases h with ⟨y, d1, d2, h1, h2, h3, h4, h5⟩ | ⟨h1, h2⟩
  · refine Or.inl ⟨d1 + d2, ⟨y, d1, h2, by rw [show d1 + d2 - d1 = d2 by omega]; exact h3⟩, fun d' ⟨y', e1, g1, g2⟩ => ?_, h5⟩
    have := h4 y' e1 (d' - e1) (hV _ _ _ g1).2 g1 g2
    omega
  · exact Or.inr ⟨fun d ⟨y', e1, g1, g2⟩ => h1 y' e1 _ (hV _ _ _ g1).2 g1 g2, h2⟩
theorem tenm (K q : Nat) : (10 : Int32) * nI (K + 1) - 10 + nI q = nI (10 * K + q) := by
  have h := ten (K + 1) 0
  rw [show nI 0 = (0 : Int32) from rfl, Int32.add_zero] at h
  rw [h, show 10 * (K + 1) + 0 = 10 * K + 10 by omega, ← nIadd, show nI 10 = (10 : Int32) from rfl, Int32.add_sub_cancel, nIadd]
section
variable {n : Nat} {E : Nat → Nat → Int → Prop} {R ed : Nat → Int32}
theorem by_cols (hn : n ≤ 10) (hB : ∀ x y d, E x y d → -10 ≤ d ∧ d ≤ 10) (hE : EdOK E ed) {e K a : Nat} (hK : K < 10) (ha : a < n) (a1 a2 a3 : Int32) (k38 : Int32 → Int32 → Int32 → (Nat → Int32) → (Nat → Int32) → Option (Int32 × Int32 × (Nat → Int32) × (Nat → Int32))) (k70 : Int32 → Int32 → Int32 → Int32 → (Nat → Int32) → (Nat → Int32) → Option (Int32 × Int32 × (Nat → Int32) × (Nat → Int32))) (rm ro : Int32) (rnd : Nat → Int32) (b0 : Nat → Int32) (h0 : ∀ y, y < n → byC E e K y (b0 (10 * K + y))) : ∀ (r b fuel : Nat) (bb : Nat → Int32), b + r = n → r < fuel → (∀ q, q ≠ 10 * (K + 1) + a → bb q = b0 q) → byP E e K a b (bb (10 * (K + 1) + a)) → ∃ b', q_X7_findRound_82 (nI n) R ed a1 a2 a3 k38 k70 fuel (nI b) (nI a) (nI (K + 1)) rm ro rnd bb = k70 (nI (a + 1)) (nI (K + 1)) rm ro rnd b' ∧ (∀ q, q ≠ 10 * (K + 1) + a → b' q = b0 q) ∧ byP E e K a n (b' (10 * (K + 1) + a))
  | r, b, 0, bb, _, hf, _, _ => absurd hf (Nat.not_lt_zero _)
  | 0, b, fuel + 1, bb, hb, _, h1, h2 => by
    rw [q_X7_findRound_82.eq_2, if_pos ((nIle (by omega) (by omega)).mpr (by omega))]
    unfold q_X7_findRound_185
    rw [nI1]
    have : b = n := by omega
    subst this
    exact ⟨bb, rfl, h1, h2⟩
  | r + 1, b, fuel + 1, bb, hb, hf, h1, h2 => by
    have go := fun bb g1 g2 => by_cols hn hB hE hK ha a1 a2 a3 k38 k70 rm ro rnd b0 h0 r (b + 1) fuel bb (by omega) (by omega) g1 g2
    have rowK : bb (10 * K + b) = b0 (10 * K + b) := h1 _ (by omega)
    rw [q_X7_findRound_82.eq_2, if_neg (nI_ge (a := b) (b := n) (by omega) (by omega)), ten, tenm, ten, nI1, rd_nI (f := ed) (by omega) (by omega), bsome, rd_nI (f := bb) (k := 10 * K + b) (by omega) (by omega), bsome, rd_nI (f := bb) (k := 10 * (K + 1) + a) (by omega) (by omega), rowK]
    have none' : (∀ d1 d2, E a b d1 → ¬ Wk E K b e d2) → byP E e K a (b + 1) (bb (10 * (K + 1) + a)) := fun hno => by
      rcases h2 with ⟨y, d1, d2, g1, g2, g3, g4, g5⟩ | ⟨g1, g2⟩
      · refine Or.inl ⟨y, d1, d2, by omega, g2, g3, fun y' d1' d2' q1 q2 q3 => ?_, g5⟩
        by_cases c : y' = b
        · subst c; exact (hno _ _ q2 q3).elim
        · exact g4 y' d1' d2' (by omega) q2 q3
      · refine Or.inr ⟨fun y' d1' d2' q1 q2 q3 => ?_, g2⟩
        by_cases c : y' = b
        · subst c; exact hno _ _ q2 q3
        · exact g1 y' d1' d2' (by omega) q2 q3
    rcases hE a b (by omega) (by omega) with ⟨d1, e1, e2, e3⟩ | ⟨e1, e2⟩
    · have hd1 := hB _ _ _ e1
      rw [isWay_yes (x := ed (10 * a + b)) (by omega), bsome, z0]
      rcases h0 b (by omega) with ⟨d2, w1, w2, w3⟩ | ⟨w1, w2⟩
      · have hd2 := Wk.ten hB (by omega) w1
        rw [isWay_yes (x := b0 (10 * K + b)) (by omega), bsome, z0, bsome]
        have es : (ed (10 * a + b) + b0 (10 * K + b)).toInt = d1 + d2 := by rw [tadd (by omega) (by omega), e3, w3]
        have up : ∀ d1' d2', E a b d1' → Wk E K b e d2' → d1' + d2' ≤ d1 + d2 := fun d1' d2' q1 q2 => by
          have := e2 _ q1
          have := w2 _ q2
          omega
        by_cases c : ed (10 * a + b) + b0 (10 * K + b) ≤ bb (10 * (K + 1) + a)
        · rw [if_pos c]
          have c' := tle.mp c
          refine go bb h1 ?_
          rcases h2 with ⟨y, f1, f2, g1, g2, g3, g4, g5⟩ | ⟨g1, g2⟩
          · refine Or.inl ⟨y, f1, f2, by omega, g2, g3, fun y' d1' d2' q1 q2 q3 => ?_, g5⟩
            by_cases c : y' = b
            · subst c
              have := up _ _ q2 q3
              omega
            · exact g4 y' d1' d2' (by omega) q2 q3
          · rw [g2, tFAR] at c'
            omega
        · rw [if_neg c, wr_nI (by omega) (by omega), bsome]
          have c' : ¬ (ed (10 * a + b) + b0 (10 * K + b)).toInt ≤ (bb (10 * (K + 1) + a)).toInt := fun q => c (tle.mpr q)
          refine go _ (fun q hq => by rw [updN hq]; exact h1 q hq) ?_
          rw [updS]
          refine Or.inl ⟨b, d1, d2, by omega, e1, w1, fun y' d1' d2' q1 q2 q3 => ?_, es⟩
          by_cases cy : y' = b
          · subst cy; exact up _ _ q2 q3
          · rcases h2 with ⟨y, f1, f2, g1, g2, g3, g4, g5⟩ | ⟨g1, g2⟩
            · have := g4 y' d1' d2' (by omega) q2 q3
              omega
            · exact (g1 y' d1' d2' (by omega) q2 q3).elim
      · rw [isWay_no (x := b0 (10 * K + b)) (by rw [w2, tFAR]; omega), bsome, z1]
        exact go bb h1 (none' (fun _ _ _ q => w1 _ q))
    · rw [isWay_no (x := ed (10 * a + b)) (by rw [e2, tFAR]; omega), bsome, z1]
      exact go bb h1 (none' (fun _ _ q _ => e1 _ q))
theorem by_rows (hn : n ≤ 10) (hV : InV E n) (hB : ∀ x y d, E x y d → -10 ≤ d ∧ d ≤ 10) (hE : EdOK E ed) {e K : Nat} (hK : K < 10) (a1 a2 a3 : Int32) (k38 : Int32 → Int32 → Int32 → (Nat → Int32) → (Nat → Int32) → Option (Int32 × Int32 × (Nat → Int32) × (Nat → Int32))) (rm ro : Int32) (rnd : Nat → Int32) (b0 : Nat → Int32) (h0 : byR E e n K b0) : ∀ (r a fuel : Nat) (bb : Nat → Int32), a + r = n → r < fuel → (∀ q, q < 10 * (K + 1) ∨ 10 * (K + 1) + a ≤ q → bb q = b0 q) → (∀ x, x < a → byC E e (K + 1) x (bb (10 * (K + 1) + x))) → ∃ b', q_X7_findRound_70 (nI n) R ed a1 a2 a3 k38 fuel (nI a) (nI (K + 1)) rm ro rnd bb = k38 (nI (K + 1)) rm ro rnd b' ∧ byR E e n (K + 1) b'
  | r, a, 0, bb, _, hf, _, _ => absurd hf (Nat.not_lt_zero _)
  | 0, a, fuel + 1, bb, ha, _, h1, h2 => by
    rw [q_X7_findRound_70.eq_2, if_pos ((nIle (by omega) (by omega)).mpr (by omega))]
    unfold q_X7_findRound_191
    refine ⟨bb, rfl, fun j x hj hx => ?_, fun q hq hq' => ?_⟩
    · by_cases c : j = K + 1
      · subst c; exact h2 x (by omega)
      · rw [h1 _ (by omega)]; exact h0.1 j x (by omega) hx
    · rw [h1 q (by omega)]; exact h0.2 q (by omega) hq'
  | r + 1, a, fuel + 1, bb, ha, hf, h1, h2 => by
    rw [q_X7_findRound_70.eq_2, if_neg (nI_ge (a := a) (b := n) (by omega) (by omega))]
    obtain ⟨b', g1, g2, g3⟩ := by_cols (R := R) hn hB hE hK (show a < n by omega) a1 a2 a3 k38 (q_X7_findRound_70 (nI n) R ed a1 a2 a3 k38 fuel) rm ro rnd bb (e := e) (fun y hy => by rw [h1 _ (by omega)]; exact h0.1 K y (Nat.le_refl _) hy) n 0 FU bb (by omega) (by unfold FU; omega) (fun q _ => rfl) (Or.inr ⟨fun y' _ _ q => absurd q (Nat.not_lt_zero _), by rw [h1 _ (by omega)]; exact h0.2 _ (by omega) (by omega)⟩)
    rw [nI_0] at g1
    rw [g1]
    refine by_rows hn hV hB hE hK a1 a2 a3 k38 rm ro rnd b0 h0 r (a + 1) fuel b' (by omega) (by omega) (fun q hq => by rw [g2 q (by omega)]; exact h1 q (by omega)) (fun x hx => ?_)
    by_cases c : x = a
    · subst c; exact g3.all hV
    · rw [g2 _ (by omega)]; exact h2 x (by omega)
theorem by_loop (hn : n ≤ 10) (hV : InV E n) (hN : NPC E) (hB : ∀ x y d, E x y d → -10 ≤ d ∧ d ≤ 10) (hE : EdOK E ed) (hR : RcOK E n R) {e v K0 : Nat} (hv : v < n) (he : e < n) (hK0 : K0 < n) (hk : Lk E e K0 v) (hmin : ∀ j, j < K0 → ¬ Lk E e j v) (a3 rm ro : Int32) (rnd : Nat → Int32) : ∀ (r K fuel : Nat) (bb : Nat → Int32), K + r = K0 → r < fuel → byR E e n K bb → ∃ b', q_X7_findRound_38 (nI n) R ed (nI v) (nI e) a3 fuel (nI K) rm ro rnd bb = q_X7_findRound_194 (nI n) R ed (nI v) (nI e) a3 (nI K0) rm ro rnd b' ∧ byR E e n K0 b'
  | r, K, 0, bb, _, hf, _ => absurd hf (Nat.not_lt_zero _)
  | r, K, fuel + 1, bb, hK, hf, h => by
    obtain ⟨rr, m1, m2⟩ := hk
    have hrr := m1.bd hV hN hB hn hv
    have hRv : (R (10 * v + e)).toInt = rr := by
      rcases hR v e hv he with ⟨d, q1, q2⟩ | ⟨q1, -⟩
      · rw [q2]; exact q1.uniq m1
      · exact (m1.not q1).elim
    rw [q_X7_findRound_38.eq_2, ten, ten, rd_nI (f := bb) (by omega) (by omega), bsome, rd_nI (f := R) (by omega) (by omega), bsome]
    have iff : bb (10 * K + v) = R (10 * v + e) ↔ Lk E e K v := by
      constructor
      · intro q
        have q' := teq.mp q
        rcases h.1 K v (Nat.le_refl _) hv with ⟨d, g1, g2, g3⟩ | ⟨g1, g2⟩
        · have : d = rr := by omega
          subst this
          exact ⟨d, m1, g1⟩
        · rw [g2, tFAR] at q'; omega
      · rintro ⟨r2, q1, q2⟩
        have := q1.uniq m1
        subst this
        rcases h.1 K v (Nat.le_refl _) hv with ⟨d, g1, g2, g3⟩ | ⟨g1, g2⟩
        · have a1 := g2 _ q2
          have a2 := q1.2 _ _ g1
          exact teq.mpr (by omega)
        · exact (g1 _ q2).elim
    cases r with
    | zero =>
      have : K = K0 := by omega
      subst this
      rw [if_pos (iff.mpr ⟨rr, m1, m2⟩)]
      exact ⟨bb, rfl, h⟩
    | succ r =>
      rw [if_neg (fun q => hmin K (by omega) (iff.mp q)), nI1]
      obtain ⟨b', g1, g2⟩ := by_rows (R := R) hn hV hB hE (K := K) (by omega) (nI v) (nI e) a3 (q_X7_findRound_38 (nI n) R ed (nI v) (nI e) a3 fuel) rm ro rnd bb h n 0 FU bb (by omega) (by unfold FU; omega) (fun q _ => rfl) (fun x hx => absurd hx (Nat.not_lt_zero _))
      rw [nI_0] at g1
      rw [g1]
      exact by_loop hn hV hN hB hE hR hv he hK0 ⟨rr, m1, m2⟩ hmin a3 rm ro rnd r (K + 1) fuel b' (by omega) (by omega) g2
theorem by_init {e : Nat} (he : e < 10) (a1 a3 rm ro : Int32) (rnd : Nat → Int32) (l : Int32) : ∀ (r i fuel : Nat) (bb : Nat → Int32), i + r = 110 → r < fuel → (∀ q, q < i → bb q = if q = e then 0 else -100000) → ∃ b', q_X7_findRound_3 l R ed a1 (nI e) a3 fuel (nI i) rm ro rnd bb = q_X7_findRound_35 l R ed a1 (nI e) a3 rm ro rnd b' ∧ ∀ q, q < 110 → b' q = if q = e then 0 else -100000
  | r, i, 0, bb, _, hf, _ => absurd hf (Nat.not_lt_zero _)
  | 0, i, fuel + 1, bb, hi, _, h => by
    rw [q_X7_findRound_3.eq_2, if_pos (show (110 : Int32) ≤ nI i from nI_le (a := 110) (b := i) (by omega) (by omega))]
    exact ⟨bb, rfl, fun q hq => h q (by omega)⟩
  | r + 1, i, fuel + 1, bb, hi, hf, h => by
    rw [q_X7_findRound_3.eq_2, if_neg (show ¬ (110 : Int32) ≤ nI i from nI_ge (a := i) (b := 110) (by omega) (by omega)), wr_nI (by omega) (by omega), bsome, wr_nI (by omega) (by omega), bsome, nI1]
    by_cases c : i = e
    · rw [if_pos (by rw [c])]
      refine by_init he a1 a3 rm ro rnd l r (i + 1) fuel _ (by omega) (by omega) (fun q hq => ?_)
      by_cases cq : q = i
      · subst cq; rw [updS, if_pos c]
      · rw [updN cq]; exact h q (by omega)
    · rw [if_neg (fun q => c ((nI_inj (by omega) (by omega)).mp q))]
      refine by_init he a1 a3 rm ro rnd l r (i + 1) fuel _ (by omega) (by omega) (fun q hq => ?_)
      by_cases cq : q = i
      · subst cq; rw [updS, if_neg c]
      · rw [updN cq]; exact h q (by omega)
end
