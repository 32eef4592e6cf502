/-! sets told as bits -/
def bt (x : Int32) (i : Nat) : Bool := x.toBitVec.getLsbD i
theorem b_ext {x y : Int32} (h : ∀ i, i < 32 → bt x i = bt y i) : x = y := Int32.toBitVec_inj.mp (BitVec.eq_of_getLsbD_eq (fun i hi => h i hi))
theorem b_or (x y : Int32) (i : Nat) : bt (x ||| y) i = (bt x i || bt y i) := by unfold bt; rw [Int32.toBitVec_or, BitVec.getLsbD_or]
theorem b_and (x y : Int32) (i : Nat) : bt (x &&& y) i = (bt x i && bt y i) := by unfold bt; rw [Int32.toBitVec_and, BitVec.getLsbD_and]
theorem b_xor (x y : Int32) (i : Nat) : bt (x ^^^ y) i = (bt x i ^^ bt y i) := by unfold bt; rw [Int32.toBitVec_xor, BitVec.getLsbD_xor]
theorem b_big {x : Int32} {i : Nat} (h : 32 ≤ i) : bt x i = false := BitVec.getLsbD_of_ge _ _ h
theorem b_0 (i : Nat) : bt 0 i = false := BitVec.getLsbD_zero
theorem s_l : ∀ n, n < 32 → ((nI n &&& 31).toBitVec.smod 32).toNat = n := by decide +kernel
theorem b_shl (n : Nat) (hn : n < 32) (x : Int32) {i : Nat} (hi : i < 32) : bt (x <<< (nI n &&& 31)) i = (decide (n ≤ i) && bt x (i - n)) := by
  unfold bt
  rw [Int32.toBitVec_shiftLeft]
  show (x.toBitVec <<< ((nI n &&& 31).toBitVec.smod 32).toNat).getLsbD i = _
  rw [s_l n hn, BitVec.getLsbD_shiftLeft]
  rcases Nat.lt_or_ge i n with h | h
  · simp [h, Nat.not_le.mpr h]
  · simp [hi, h, Nat.not_lt.mpr h]
theorem b_sshr (n : Nat) (hn : n < 32) (x : Int32) {i : Nat} (hi : i < 32) : bt (x >>> (nI n &&& 31)) i = if n + i < 32 then bt x (n + i) else bt x 31 := by
  unfold bt
  rw [Int32.toBitVec_shiftRight]
  show (x.toBitVec.sshiftRight ((nI n &&& 31).toBitVec.smod 32).toNat).getLsbD i = _
  rw [s_l n hn, BitVec.getLsbD_sshiftRight, BitVec.msb_eq_getLsbD_last]
  simp [hi]
theorem nx_and (a b : Nat) : nI a &&& nI b = nI (a &&& b) := by
  apply Int32.toBitVec_inj.1
  show BitVec.ofNat 32 a &&& BitVec.ofNat 32 b = BitVec.ofNat 32 (a &&& b)
  apply BitVec.eq_of_getLsbD_eq
  intro i hi
  simp [hi]
theorem nx_xor (a b : Nat) : nI a ^^^ nI b = nI (a ^^^ b) := by
  apply Int32.toBitVec_inj.1
  show BitVec.ofNat 32 a ^^^ BitVec.ofNat 32 b = BitVec.ofNat 32 (a ^^^ b)
  apply BitVec.eq_of_getLsbD_eq
  intro i hi
  simp [hi]
theorem nx_or (a b : Nat) : nI a ||| nI b = nI (a ||| b) := by
  apply Int32.toBitVec_inj.1
  show BitVec.ofNat 32 a ||| BitVec.ofNat 32 b = BitVec.ofNat 32 (a ||| b)
  apply BitVec.eq_of_getLsbD_eq
  intro i hi
  simp [hi]
theorem btN {s i : Nat} (hi : i < 32) : bt (nI s) i = s.testBit i := by
  show (BitVec.ofNat 32 s).getLsbD i = _
  rw [BitVec.getLsbD_ofNat, decide_eq_true hi]
  rfl
theorem bt1 : ∀ i, i < 32 → bt 1 i = decide (i = 0) := by decide +kernel
theorem and1_bt (y : Int32) : (y &&& 1) = 0 ↔ bt y 0 = false := by
  constructor
  · intro h
    have := congrArg (bt · 0) h
    simp only [b_and, bt1 0 (by omega), b_0] at this
    simpa using this
  · intro h
    refine b_ext fun i hi => ?_
    rw [b_and, bt1 i hi, b_0]
    by_cases c : i = 0
    · subst c; rw [h]; rfl
    · simp [c]
theorem bitBN {s b : Nat} (hb : b < 32) : bitB (nI s) b ↔ s.testBit b = true := by
  unfold bitB
  rw [and1_bt, b_sshr b hb _ (by omega), Nat.add_zero, if_pos hb, btN hb]
  simp
theorem shl1 : ∀ x, x < 31 → (1 : Int32) <<< (nI x &&& 31) = nI (2 ^ x) := by decide +kernel
def cnt : Nat → (Nat → Bool) → Nat
  | 0, _ => 0
  | K + 1, g => cnt K g + (if g K = true then 1 else 0)
theorem cnt_congr {g g' : Nat → Bool} : ∀ K, (∀ i, i < K → g i = g' i) → cnt K g = cnt K g'
  | 0, _ => rfl
  | K + 1, h => by
    show cnt K g + _ = cnt K g' + _
    rw [cnt_congr K (fun i hi => h i (by omega)), h K (by omega)]
theorem cnt_le {g g' : Nat → Bool} : ∀ K, (∀ i, i < K → g i = true → g' i = true) → cnt K g ≤ cnt K g'
  | 0, _ => Nat.le_refl _
  | K + 1, h => by
    show cnt K g + _ ≤ cnt K g' + _
    have := cnt_le K (fun i hi => h i (by omega))
    by_cases c : g K = true
    · rw [if_pos c, if_pos (h K (by omega) c)]; omega
    · rw [if_neg c]; omega
theorem cnt_lt {g g' : Nat → Bool} {p : Nat} (hp1 : g p = false) (hp2 : g' p = true) : ∀ K, p < K → (∀ i, i < K → g i = true → g' i = true) → cnt K g < cnt K g'
  | 0, h, _ => absurd h (Nat.not_lt_zero _)
  | K + 1, hp, h => by
    show cnt K g + _ < cnt K g' + _
    by_cases c : p = K
    · subst c
      have := cnt_le p (fun i hi => h i (by omega))
      rw [if_pos hp2, if_neg (by rw [hp1]; decide)]
      omega
    · have := cnt_lt hp1 hp2 K (by omega) (fun i hi => h i (by omega))
      by_cases c : g K = true
      · rw [if_pos c, if_pos (h K (by omega) c)]; omega
      · rw [if_neg c]; omega
theorem cnt_clear {g g' : Nat → Bool} {p : Nat} (hp1 : g p = true) (hp2 : g' p = false) (h : ∀ i, i ≠ p → g' i = g i) : ∀ K, p < K → cnt K g = cnt K g' + 1
  | 0, hp => absurd hp (Nat.not_lt_zero _)
  | K + 1, hp => by
    show cnt K g + _ = cnt K g' + _ + 1
    by_cases c : p = K
    · subst c
      rw [if_pos hp1, if_neg (by rw [hp2]; decide), cnt_congr p (fun i hi => (h i (by omega)).symm)]
    · rw [cnt_clear hp1 hp2 h K (by omega), h K (by omega)]
      omega
theorem cnt_zero {g : Nat → Bool} : ∀ K, cnt K g = 0 → ∀ i, i < K → g i = false
  | 0, _, i, hi => absurd hi (Nat.not_lt_zero _)
  | K + 1, h, i, hi => by
    have h' : cnt K g + (if g K = true then 1 else 0) = 0 := h
    by_cases c : i = K
    · subst c
      by_cases cc : g i = true
      · rw [if_pos cc] at h'; omega
      · exact Bool.eq_false_iff.mpr cc
    · exact cnt_zero K (by omega) i (by omega)
theorem cnt_mono {g : Nat → Bool} {K : Nat} : ∀ d, cnt K g ≤ cnt (K + d) g
  | 0 => Nat.le_refl _
  | d + 1 => by
    have := cnt_mono (g := g) (K := K) d
    show _ ≤ cnt (K + d) g + _
    omega
/-- places, in order -/
theorem cnt_list (g : Nat → Bool) : ∀ K, ∃ l : List Nat, l.Pairwise (· < ·) ∧ l.length = cnt K g ∧ ∀ q, q ∈ l ↔ q < K ∧ g q = true
  | 0 => ⟨[], List.Pairwise.nil, rfl, fun q => by simp⟩
  | K + 1 => by
    obtain ⟨l, h1, h2, h3⟩ := cnt_list g K
    by_cases c : g K = true
    · refine ⟨l ++ [K], ?_, ?_, fun q => ?_⟩
      · rw [List.pairwise_append]
        refine ⟨h1, List.pairwise_singleton _ _, fun a ha b hb => ?_⟩
        rw [List.mem_singleton] at hb
        have := (h3 a).mp ha
        omega
      · show _ = cnt K g + _
        rw [if_pos c, List.length_append, h2]; rfl
      · rw [List.mem_append, List.mem_singleton, h3]
        constructor
        · rintro (h | h)
          · exact ⟨by omega, h.2⟩
          · subst h; exact ⟨by omega, c⟩
        · intro h
          by_cases e : q = K
          · exact Or.inr e
          · exact Or.inl ⟨by omega, h.2⟩
    · refine ⟨l, h1, ?_, fun q => ?_⟩
      · show _ = cnt K g + _
        rw [if_neg c, h2]; rfl
      · rw [h3]
        constructor
        · exact fun h => ⟨by omega, h.2⟩
        · intro h
          by_cases e : q = K
          · subst e; exact (c h.2).elim
          · exact ⟨by omega, h.2⟩
def Lw (s p : Nat) : Prop := s.testBit p = true ∧ ∀ q, q < p → s.testBit q = false
theorem pred_bit : ∀ (p s : Nat), Lw s p → ∀ i, (s - 1).testBit i = if i < p then true else if i = p then false else s.testBit i
  | 0, s, h, i => by
    have h0 : s % 2 = 1 := by have := h.1; rw [Nat.testBit_zero] at this; simpa using this
    rw [if_neg (Nat.not_lt_zero _)]
    cases i with
    | zero => rw [if_pos rfl, Nat.testBit_zero]; simp; omega
    | succ i => rw [if_neg (by omega), Nat.testBit_succ, Nat.testBit_succ, show (s - 1) / 2 = s / 2 by omega]
  | p + 1, s, h, i => by
    have h0 : s % 2 = 0 := by
      have := h.2 0 (by omega)
      rw [Nat.testBit_zero] at this
      simp at this
      omega
    have h1 : Lw (s / 2) p := ⟨by have := h.1; rw [Nat.testBit_succ] at this; exact this, fun q hq => by have := h.2 (q + 1) (by omega); rw [Nat.testBit_succ] at this; exact this⟩
    have hs : s ≠ 0 := fun q => by have := h.1; rw [q, Nat.zero_testBit] at this; exact Bool.noConfusion this
    cases i with
    | zero => rw [if_pos (by omega), Nat.testBit_zero]; simp; omega
    | succ i =>
      rw [Nat.testBit_succ, show (s - 1) / 2 = s / 2 - 1 by omega, pred_bit p (s / 2) h1 i, Nat.testBit_succ]
      by_cases c1 : i < p
      · rw [if_pos c1, if_pos (by omega)]
      · rw [if_neg c1, if_neg (show ¬ i + 1 < p + 1 by omega)]
        by_cases c2 : i = p
        · rw [if_pos c2, if_pos (show i + 1 = p + 1 by omega)]
        · rw [if_neg c2, if_neg (show ¬ i + 1 = p + 1 by omega)]
theorem clr_bit {s p : Nat} (h : Lw s p) (i : Nat) : (s &&& (s - 1)).testBit i = (s.testBit i && decide (i ≠ p)) := by
  rw [Nat.testBit_and, pred_bit p s h i]
  by_cases c1 : i < p
  · rw [if_pos c1, h.2 i c1]; rfl
  · rw [if_neg c1]
    by_cases c2 : i = p
    · rw [if_pos c2]; simp [c2]
    · rw [if_neg c2]; simp [c2]
theorem hi_bit {s i : Nat} (hs : s < 65536) (hi : 16 ≤ i) : s.testBit i = false := Nat.testBit_lt_two_pow (Nat.lt_of_lt_of_le hs (by
  have : 2 ^ 16 ≤ 2 ^ i := Nat.pow_le_pow_right (by decide) hi
  omega))
theorem zero_of {s : Nat} (hs : s < 65536) (h : ∀ i, i < 16 → s.testBit i = false) : s = 0 := by
  refine Nat.eq_of_testBit_eq fun i => ?_
  rw [Nat.zero_testBit]
  by_cases c : i < 16
  · exact h i c
  · exact hi_bit hs (by omega)
theorem Lw.ex {s : Nat} (hs : s < 65536) (h : s ≠ 0) : ∃ p, p < 16 ∧ Lw s p := by
  have : ∃ i, i < 16 ∧ s.testBit i = true := Classical.byContradiction fun q => h (zero_of hs fun i hi => Bool.eq_false_iff.mpr fun g => q ⟨i, hi, g⟩)
  obtain ⟨i, h1, h2⟩ := this
  obtain ⟨p, p1, p2, p3⟩ := least_one (P := fun i => s.testBit i = true) i h2
  exact ⟨p, by omega, p2, fun q hq => Bool.eq_false_iff.mpr (p3 q hq)⟩
theorem ones_loop (a0 : Int32) : ∀ (r s fuel c : Nat), s < 65536 → cnt 16 s.testBit = r → r < fuel → q_X7_ones_4 a0 fuel (nI s) (nI c) = some (nI (c + r))
  | r, s, 0, c, _, _, hf => absurd hf (Nat.not_lt_zero _)
  | 0, s, fuel + 1, c, hs, h, _ => by
    have := zero_of hs (cnt_zero 16 h)
    subst this
    rw [q_X7_ones_4.eq_2, if_pos (show nI 0 = 0 from rfl)]; rfl
  | r + 1, s, fuel + 1, c, hs, h, hf => by
    have hs0 : s ≠ 0 := fun q => by
      subst q
      rw [cnt_congr (g' := fun _ => false) 16 (fun i _ => Nat.zero_testBit i)] at h
      exact absurd h (by simp [cnt])
    obtain ⟨p, p1, p2⟩ := Lw.ex hs hs0
    have hc := cnt_clear (g := s.testBit) (g' := (s &&& (s - 1)).testBit) (p := p) p2.1 (by rw [clr_bit p2]; simp) (fun i hi => by rw [clr_bit p2]; simp [hi]) 16 p1
    have hle : s &&& (s - 1) ≤ s := Nat.and_le_left
    rw [q_X7_ones_4.eq_2, if_neg (nI_ne0 (by omega) (by omega)), nI1]
    obtain ⟨s', rfl⟩ : ∃ q, s = q + 1 := ⟨s - 1, by omega⟩
    rw [nI_pred, nx_and]
    rw [show s' + 1 - 1 = s' from rfl] at hc hle
    rw [ones_loop a0 r _ fuel (c + 1) (by omega) (by omega) (by omega), show c + 1 + r = c + (r + 1) by omega]
theorem ones_ok {s : Nat} (hs : s < 65536) : p_X7_ones (nI s) = some (nI (cnt 16 s.testBit)) := by
  have hb : ∀ (g : Nat → Bool) K, cnt K g ≤ K := fun g K => by
    induction K with
    | zero => exact Nat.le_refl _
    | succ K ih => show cnt K g + _ ≤ _; split <;> omega
  have := hb s.testBit 16
  unfold p_X7_ones
  have h := ones_loop (nI s) (cnt 16 s.testBit) s FU 0 hs rfl (by unfold FU; omega)
  rw [nI_0, Nat.zero_add] at h
  exact h
theorem has_bit {s b : Nat} (hb : b < 32) : (s.testBit b = true ∧ p_X7_has (nI s) (nI b) = some 1) ∨ (s.testBit b = false ∧ p_X7_has (nI s) (nI b) = some 0) := by
  by_cases c : bitB (nI s) b
  · exact Or.inl ⟨(bitBN hb).mp c, has_yes c⟩
  · exact Or.inr ⟨Bool.eq_false_iff.mpr fun q => c ((bitBN hb).mpr q), has_no c⟩
theorem nth_low (a0 a1 : Int32) {s p : Nat} (hp : p < 16) (h : Lw s p) : ∀ (r j fuel : Nat), j + r = p → r < fuel → q_X7_nth_23 a0 a1 fuel (nI j) (nI s) = some (nI p)
  | r, j, 0, _, hf => absurd hf (Nat.not_lt_zero _)
  | 0, j, fuel + 1, hj, _ => by
    have : j = p := by omega
    subst this
    rcases has_bit (s := s) (b := j) (by omega) with ⟨-, q⟩ | ⟨q, -⟩
    · rw [q_X7_nth_23.eq_2, q, bsome, z0]
    · rw [h.1] at q; exact Bool.noConfusion q
  | r + 1, j, fuel + 1, hj, hf => by
    rcases has_bit (s := s) (b := j) (by omega) with ⟨q, -⟩ | ⟨-, q⟩
    · rw [h.2 j (by omega)] at q; exact Bool.noConfusion q
    · rw [q_X7_nth_23.eq_2, q, bsome, z1, nI1]
      exact nth_low a0 a1 hp h r (j + 1) fuel (by omega) (by omega)
theorem nth_loop (a0 : Int32) {i : Nat} (hi : i < 100) : ∀ (r j s fuel : Nat), j + r = i → r < fuel → s < 65536 → r < cnt 16 s.testBit → ∃ p, p < 16 ∧ q_X7_nth_4 a0 (nI i) fuel (nI j) (nI s) = some (nI p) ∧ s.testBit p = true ∧ cnt p s.testBit = r
  | r, j, s, 0, _, hf, _, _ => absurd hf (Nat.not_lt_zero _)
  | r, j, s, fuel + 1, hj, hf, hs, hc => by
    have hs0 : s ≠ 0 := fun q => by
      subst q
      rw [cnt_congr (g' := fun _ => false) 16 (fun i _ => Nat.zero_testBit i)] at hc
      exact absurd hc (by simp [cnt])
    obtain ⟨p, p1, p2⟩ := Lw.ex hs hs0
    cases r with
    | zero =>
      rw [q_X7_nth_4.eq_2, if_pos ((nIle (by omega) (by omega)).mpr (by omega))]
      unfold q_X7_nth_21
      have := nth_low a0 (nI i) p1 p2 p 0 FU (by omega) (by unfold FU; omega)
      rw [nI_0] at this
      refine ⟨p, p1, this, p2.1, ?_⟩
      have : ∀ K, K ≤ p → cnt K s.testBit = 0 := fun K hK => by
        induction K with
        | zero => rfl
        | succ K ih => show cnt K s.testBit + _ = 0; rw [ih (by omega), if_neg (by rw [p2.2 K (by omega)]; decide)]
      exact this p (Nat.le_refl _)
    | succ r =>
      rw [q_X7_nth_4.eq_2, if_neg (nI_ge (a := j) (b := i) (by omega) (by omega)), nI1]
      have hcl := cnt_clear (g := s.testBit) (g' := (s &&& (s - 1)).testBit) (p := p) p2.1 (by rw [clr_bit p2]; simp) (fun i hi => by rw [clr_bit p2]; simp [hi])
      have hle : s &&& (s - 1) ≤ s := Nat.and_le_left
      have hbit := clr_bit p2
      have hc16 := hcl 16 p1
      obtain ⟨s', rfl⟩ : ∃ q, s = q + 1 := ⟨s - 1, by omega⟩
      rw [nI_pred, nx_and]
      rw [show s' + 1 - 1 = s' from rfl] at hcl hle hbit hc16
      obtain ⟨p', q1, q2, q3, q4⟩ := nth_loop a0 hi r (j + 1) ((s' + 1) &&& s') fuel (by omega) (by omega) (by omega) (by omega)
      rw [hbit] at q3
      have q3' : (s' + 1).testBit p' = true ∧ p' ≠ p := by simpa using q3
      have hpp : p < p' := by
        rcases Nat.lt_trichotomy p p' with h | h | h
        · exact h
        · exact (q3'.2 h.symm).elim
        · have := p2.2 p' h
          rw [q3'.1] at this
          exact Bool.noConfusion this
      exact ⟨p', q1, q2, q3'.1, by rw [hcl p' hpp, q4]⟩
/-- which comes first -/
def Ah (a b : Nat) : Prop := ∃ p, (∀ q, q < p → a.testBit q = b.testBit q) ∧ a.testBit p = true ∧ b.testBit p = false
theorem Ah.trans {a b c : Nat} (h1 : Ah a b) (h2 : Ah b c) : Ah a c := by
  obtain ⟨p, p1, p2, p3⟩ := h1
  obtain ⟨r, r1, r2, r3⟩ := h2
  rcases Nat.lt_trichotomy p r with h | h | h
  · exact ⟨p, fun q hq => by rw [p1 q hq, r1 q (by omega)], p2, by rw [← r1 p h]; exact p3⟩
  · subst h; rw [p3] at r2; exact Bool.noConfusion r2
  · exact ⟨r, fun q hq => by rw [p1 q (by omega), r1 q hq], by rw [p1 r h]; exact r2, r3⟩
theorem Ah.irr {a : Nat} (h : Ah a a) : False := by
  obtain ⟨p, -, p2, p3⟩ := h
  rw [p2] at p3
  exact Bool.noConfusion p3
theorem ahead_ok {a b : Nat} (ha : a < 65536) (hb : b < 65536) (hab : a ≠ b) : (Ah a b ∧ p_X7_isAhead (nI a) (nI b) = some 1) ∨ (Ah b a ∧ p_X7_isAhead (nI a) (nI b) = some 0) := by
  have ex : ∃ i, i < 16 ∧ a.testBit i ≠ b.testBit i := Classical.byContradiction fun q => hab (Nat.eq_of_testBit_eq fun i => by
    by_cases c : i < 16
    · exact Classical.byContradiction fun g => q ⟨i, c, g⟩
    · rw [hi_bit ha (by omega), hi_bit hb (by omega)])
  obtain ⟨i, i1, i2⟩ := ex
  obtain ⟨p, p1, p2, p3⟩ := least_one (P := fun i => a.testBit i ≠ b.testBit i) i i2
  have p3' : ∀ q, q < p → a.testBit q = b.testBit q := fun q hq => Classical.byContradiction (p3 q hq)
  have hp : p < 32 := by omega
  have low : ∀ j, j < 32 → bt ((nI a ^^^ nI b) &&& (-(nI a ^^^ nI b))) j = decide (j = p) := by
    intro j hj
    have hx : ∀ q, q < 32 → bt (nI a ^^^ nI b) q = (a.testBit q ^^ b.testBit q) := fun q hq => by rw [b_xor, btN hq, btN hq]
    have hneg : bt (-(nI a ^^^ nI b)) j = (bt (nI a ^^^ nI b) j ^^ decide (∃ q, q < j ∧ bt (nI a ^^^ nI b) q = true)) := by
      unfold bt
      rw [Int32.toBitVec_neg, BitVec.getLsbD_neg]
      simp [hj]
    rw [b_and, hneg, hx j hj]
    by_cases c1 : j = p
    · subst c1
      have : ¬ ∃ q, q < j ∧ bt (nI a ^^^ nI b) q = true := fun ⟨q, h1, h2⟩ => by
        rw [hx q (by omega), p3' q h1] at h2
        simp at h2
      rw [decide_eq_false this]
      simp
      exact p2
    · rw [decide_eq_false c1]
      by_cases c2 : j < p
      · rw [p3' j c2]; simp
      · have : ∃ q, q < j ∧ bt (nI a ^^^ nI b) q = true := ⟨p, by omega, by rw [hx p hp]; simpa using p2⟩
        rw [decide_eq_true this]
        simp
  unfold p_X7_isAhead
  have hz : (nI a &&& ((nI a ^^^ nI b) &&& (-(nI a ^^^ nI b)))) = 0 ↔ a.testBit p = false := by
    constructor
    · intro h
      have := congrArg (bt · p) h
      simp only [b_and (nI a), low p hp, b_0, btN hp] at this
      simpa using this
    · intro h
      refine b_ext fun j hj => ?_
      rw [b_and (nI a), low j hj, b_0, btN hj]
      by_cases c : j = p
      · subst c; rw [h]; rfl
      · simp [c]
  by_cases c : a.testBit p = false
  · rw [if_pos (hz.mpr c)]
    exact Or.inr ⟨⟨p, fun q hq => (p3' q hq).symm, by
      rw [c] at p2
      exact (Bool.eq_false_or_eq_true _).resolve_right fun q => p2 q.symm, c⟩, rfl⟩
  · rw [if_neg (fun q => c (hz.mp q))]
    have c' : a.testBit p = true := by simpa using c
    exact Or.inl ⟨⟨p, p3', c', by
      rw [c'] at p2
      exact Bool.eq_false_iff.mpr fun q => p2 q.symm⟩, rfl⟩
