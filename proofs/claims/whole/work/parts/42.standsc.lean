/-! stands, here: choices of those in the way -/
def iw (f t w : Nat → Int32) (G : Nat → Nat → Int32) (v u : Nat) (wt : Int32) (b : Nat) : Prop := G v (f b).toNatClampNeg ≠ -1000000 ∧ G (t b).toNatClampNeg u ≠ -1000000 ∧ ¬ (((G v (f b).toNatClampNeg + w b) + G (t b).toNatClampNeg u) + wt ≤ 0)
def gi (P : Nat → Prop) (b : Nat) (A : Nat → Int32) (many : Nat) (W : Nat → Nat) : Prop := many ≤ b ∧ (∀ q, q < many → A q = nI (W q) ∧ W q < b) ∧ (∀ q q', q < q' → q' < many → W q < W q') ∧ ∀ b', b' < b → (P b' ↔ ∃ q, q < many ∧ W q = b')
section
variable {n m : Nat} {f t w : Nat → Int32} {G : Nat → Nat → Int32}
theorem ga_loop (hg : gOK n m f t w) {u v : Nat} (hu : u < n) (hv : v < n) (wt : Int32) : ∀ (r b fuel : Nat) (A : Nat → Int32) (many : Nat) (W : Nat → Nat), b + r = m → r < fuel → gi (iw f t w G v u wt) b A many W → ∃ A' many' W', q_X0_gather_8 f t w (nI m) G (nI u) wt (nI v) fuel (nI b) A (nI many) = some (A', nI many') ∧ gi (iw f t w G v u wt) m A' many' W'
  | r, b, 0, A, many, W, _, hf, _ => absurd hf (Nat.not_lt_zero _)
  | 0, b, fuel + 1, A, many, W, hb, _, h => by
    have hm := hg.2.1
    rw [q_X0_gather_8.eq_2, if_pos ((nIle (by omega) (by omega)).mpr (by omega))]
    have : b = m := by omega
    subst this
    exact ⟨A, many, W, rfl, h⟩
  | r + 1, b, fuel + 1, A, many, W, hb, hf, h => by
    have hm := hg.2.1
    have hn := hg.1
    obtain ⟨f1, f2, t1, t2, w1, w2⟩ := hg.at (b := b) (by omega)
    have go := fun A many W h => ga_loop hg hu hv wt r (b + 1) fuel A many W (by omega) (by omega) h
    obtain ⟨h1, h2, h3, h4⟩ := h
    have no : ¬ iw f t w G v u wt b → gi (iw f t w G v u wt) (b + 1) A many W := fun q => ⟨by omega, fun q hq => ⟨(h2 q hq).1, by have := (h2 q hq).2; omega⟩, h3, fun b' hb' => by
      by_cases c : b' = b
      · subst c
        exact ⟨fun g => (q g).elim, fun ⟨q', g1, g2⟩ => by have := (h2 q' g1).2; omega⟩
      · exact h4 b' (by omega)⟩
    rw [q_X0_gather_8.eq_2, if_neg (nI_ge (a := b) (b := m) (by omega) (by omega)), ix_nI (by omega) (by omega), bsome, rd_nI (f := f) (by omega) (by omega), bsome, rd_at f1 (by omega) (by omega), bsome, rd_nI (f := t) (by omega) (by omega), bsome, ix_at t1 (by omega) (by omega), bsome, rd_nI (k := u) (by omega) (by omega), bsome, rd_nI (f := w) (by omega) (by omega), bsome, wr_nI (by omega) (by omega), bsome, nI1, nI1]
    by_cases c1 : G v (f b).toNatClampNeg = -1000000
    · rw [if_pos c1]; exact go A many W (no fun q => q.1 c1)
    · rw [if_neg c1]
      by_cases c2 : G (t b).toNatClampNeg u = -1000000
      · rw [if_pos c2]; exact go A many W (no fun q => q.2.1 c2)
      · rw [if_neg c2]
        by_cases c3 : ((G v (f b).toNatClampNeg + w b) + G (t b).toNatClampNeg u) + wt ≤ 0
        · rw [if_pos c3]; exact go A many W (no fun q => q.2.2 c3)
        · rw [if_neg c3]
          refine go _ (many + 1) (fun q => if q = many then b else W q) ⟨by omega, fun q hq => ?_, fun q q' hq hq' => ?_, fun b' hb' => ?_⟩
          · show upd A many (nI b) q = nI (if q = many then b else W q) ∧ (if q = many then b else W q) < b + 1
            by_cases c : q = many
            · subst c; rw [updS, if_pos rfl]; exact ⟨rfl, by omega⟩
            · rw [updN c, if_neg c]
              have := h2 q (by omega)
              exact ⟨this.1, by omega⟩
          · show (if q = many then b else W q) < (if q' = many then b else W q')
            rw [if_neg (show ¬ q = many by omega)]
            by_cases c : q' = many
            · rw [if_pos c]; exact (h2 q (by omega)).2
            · rw [if_neg c]; exact h3 q q' hq (by omega)
          · by_cases c : b' = b
            · subst c
              exact ⟨fun _ => ⟨many, by omega, if_pos rfl⟩, fun _ => ⟨c1, c2, c3⟩⟩
            · rw [h4 b' (by omega)]
              constructor
              · rintro ⟨q, q1, q2⟩
                exact ⟨q, by omega, by show (if q = many then b else W q) = b'; rw [if_neg (by omega)]; exact q2⟩
              · rintro ⟨q, q1, q2⟩
                have q2' : (if q = many then b else W q) = b' := q2
                by_cases cc : q = many
                · rw [if_pos cc] at q2'; exact (c q2'.symm).elim
                · rw [if_neg cc] at q2'; exact ⟨q, by omega, q2'⟩
def pb (W c : Nat → Nat) : Nat → Nat → Nat → Nat
  | _, 0, s => s
  | j, r + 1, s => pb W c (j + 1) r (s ||| 2 ^ W (c j))
theorem pb_bit (W c : Nat → Nat) (b : Nat) : ∀ (r j s : Nat), (pb W c j r s).testBit b = true ↔ s.testBit b = true ∨ ∃ q, j ≤ q ∧ q < j + r ∧ W (c q) = b
  | 0, j, s => by
    show s.testBit b = true ↔ _
    exact ⟨Or.inl, fun h => h.elim id fun ⟨q, h1, h2, _⟩ => by omega⟩
  | r + 1, j, s => by
    show (pb W c (j + 1) r (s ||| 2 ^ W (c j))).testBit b = true ↔ _
    rw [pb_bit W c b r, Nat.testBit_or, Nat.testBit_two_pow, Bool.or_eq_true, decide_eq_true_eq]
    constructor
    · rintro ((h | h) | ⟨q, h1, h2, h3⟩)
      · exact Or.inl h
      · exact Or.inr ⟨j, Nat.le_refl _, by omega, h⟩
      · exact Or.inr ⟨q, by omega, by omega, h3⟩
    · rintro (h | ⟨q, h1, h2, h3⟩)
      · exact Or.inl (Or.inl h)
      · by_cases c : q = j
        · subst c; exact Or.inl (Or.inr h3)
        · exact Or.inr ⟨q, by omega, by omega, h3⟩
theorem pb_congr (W : Nat → Nat) {c c' : Nat → Nat} : ∀ (r j s : Nat), (∀ q, j ≤ q → q < j + r → c q = c' q) → pb W c j r s = pb W c' j r s
  | 0, j, s, _ => rfl
  | r + 1, j, s, h => by
    show pb W c (j + 1) r (s ||| 2 ^ W (c j)) = pb W c' (j + 1) r (s ||| 2 ^ W (c' j))
    rw [h j (Nat.le_refl _) (by omega)]
    exact pb_congr W r (j + 1) _ (fun q h1 h2 => h q (by omega) (by omega))
def Sc (W c : Nat → Nat) (sz : Nat) : Nat := pb W c 0 sz 0
theorem Sc_bit {W c : Nat → Nat} {sz b : Nat} : (Sc W c sz).testBit b = true ↔ ∃ q, q < sz ∧ W (c q) = b := by
  unfold Sc
  rw [pb_bit]
  constructor
  · rintro (h | ⟨q, h1, h2, h3⟩)
    · rw [Nat.zero_testBit] at h; exact Bool.noConfusion h
    · exact ⟨q, by omega, h3⟩
  · rintro ⟨q, h1, h2⟩
    exact Or.inr ⟨q, by omega, by omega, h2⟩
def Vd (many sz : Nat) (c : Nat → Nat) : Prop := (∀ q, q + 1 < sz → c q < c (q + 1)) ∧ ∀ q, q < sz → c q + (sz - q) ≤ many
def Lx (sz : Nat) (c c' : Nat → Nat) : Prop := ∃ a, a < sz ∧ (∀ q, q < a → c q = c' q) ∧ c a < c' a
theorem pk_bits {A P : Nat → Int32} {many : Nat} (hm : many ≤ 16) {W c : Nat → Nat} (hA : ∀ q, q < many → A q = nI (W q) ∧ W q < 16) {sz : Nat} (hsz : sz ≤ 3) (hc : ∀ q, q < sz → P q = nI (c q) ∧ c q < many) : ∀ (r j fuel s : Nat), j + r = sz → r < fuel → q_X0_pickedBits_4 A P (nI sz) fuel (nI j) (nI s) = some (nI (pb W c j r s))
  | r, j, 0, s, _, hf => absurd hf (Nat.not_lt_zero _)
  | 0, j, fuel + 1, s, hj, _ => by
    rw [q_X0_pickedBits_4.eq_2, if_pos ((nIle (by omega) (by omega)).mpr (by omega))]
    rfl
  | r + 1, j, fuel + 1, s, hj, hf => by
    obtain ⟨c1, c2⟩ := hc j (by omega)
    obtain ⟨a1, a2⟩ := hA (c j) c2
    rw [q_X0_pickedBits_4.eq_2, if_neg (nI_ge (a := j) (b := sz) (by omega) (by omega))]
    unfold p_X0_numberOf
    rw [rd_nI (by omega) (by omega), bsome, c1, rd_nI (by omega) (by omega), bsome, bsome, a1, shl1 _ (by omega), nx_or, nI1]
    exact pk_bits hm hA hsz hc r (j + 1) fuel _ (by omega) (by omega)
theorem nf_loop (am : Int32) {sz i : Nat} (hsz : sz ≤ 3) {c : Nat → Nat} (hc : c i + sz < 100) : ∀ (r j fuel : Nat) (P : Nat → Int32), j + r = sz → i < j → r < fuel → (∀ q, q < j → P q = nI (if q < i then c q else c i + (q - i))) → ∃ P', q_X0_nextChoice_39 am (nI sz) fuel (nI j) P = some (1, P') ∧ ∀ q, q < sz → P' q = nI (if q < i then c q else c i + (q - i))
  | r, j, 0, P, _, _, hf, _ => absurd hf (Nat.not_lt_zero _)
  | 0, j, fuel + 1, P, hj, _, _, h => by
    rw [q_X0_nextChoice_39.eq_2, if_pos ((nIle (by omega) (by omega)).mpr (by omega))]
    exact ⟨P, rfl, fun q hq => h q (by omega)⟩
  | r + 1, j, fuel + 1, P, hj, hi, hf, h => by
    obtain ⟨j', rfl⟩ : ∃ q, j = q + 1 := ⟨j - 1, by omega⟩
    have hp := h j' (by omega)
    rw [if_neg (by omega)] at hp
    rw [q_X0_nextChoice_39.eq_2, if_neg (nI_ge (a := j' + 1) (b := sz) (by omega) (by omega)), nI_pred, rd_nI (by omega) (by omega), bsome, hp, nI1, wr_nI (by omega) (by omega), bsome, nI1]
    refine nf_loop am hsz hc r (j' + 1 + 1) fuel _ (by omega) (by omega) (by omega) (fun q hq => ?_)
    by_cases cq : q = j' + 1
    · subst cq
      rw [updS, if_neg (by omega), show c i + (j' - i) + 1 = c i + (j' + 1 - i) by omega]
    · rw [updN cq]; exact h q (by omega)
theorem ns_loop {many sz : Nat} (hm : many ≤ 16) (hsz : sz ≤ 3) (hsm : sz ≤ many) {c : Nat → Nat} (hv : Vd many sz c) {P : Nat → Int32} (hP : ∀ q, q < sz → P q = nI (c q)) : ∀ (i fuel : Nat), i ≤ sz → i < fuel → (∀ q, i ≤ q → q < sz → c q = many - sz + q) → ((∀ q, q < sz → c q = many - sz + q) ∧ q_X0_nextChoice_4 (nI many) (nI sz) fuel (nI i - 1) P = some (0, P)) ∨ ∃ k, k < sz ∧ c k < many - sz + k ∧ (∀ q, k < q → q < sz → c q = many - sz + q) ∧ ∃ P', q_X0_nextChoice_4 (nI many) (nI sz) fuel (nI i - 1) P = some (1, P') ∧ ∀ q, q < sz → P' q = nI (if q < k then c q else c k + 1 + (q - k))
  | i, 0, _, hf, _ => absurd hf (Nat.not_lt_zero _)
  | 0, fuel + 1, _, _, h => by
    rw [q_X0_nextChoice_4.eq_2, if_pos (show nI 0 - 1 < 0 by decide)]
    exact Or.inl ⟨fun q hq => h q (by omega) hq, rfl⟩
  | i + 1, fuel + 1, hi, hf, h => by
    have hvi := hv.2 i (by omega)
    have e1 : nI many - nI sz + nI i = nI (many - sz + i) := by
      refine nI_of_toInt ?_ (by omega)
      have a1 : (nI many - nI sz).toInt = (many : Int) - sz := by rw [tsub (by rw [tnI (by omega), tnI (by omega)]; omega) (by rw [tnI (by omega), tnI (by omega)]; omega), tnI (by omega), tnI (by omega)]
      rw [tadd (by rw [a1, tnI (by omega)]; omega) (by rw [a1, tnI (by omega)]; omega), a1, tnI (by omega)]
      omega
    rw [nI_pred, q_X0_nextChoice_4.eq_2, if_neg (show ¬ nI i < 0 from fun q => by have := tlt.mp q; rw [tnI (by omega), tlit0] at this; omega), rd_nI (by omega) (by omega), bsome, hP i (by omega), e1]
    by_cases cc : many - sz + i ≤ c i
    · rw [if_pos ((nIle (by omega) (by omega)).mpr cc), ← Int32.sub_eq_add_neg]
      exact ns_loop hm hsz hsm hv hP i fuel (by omega) (by omega) (fun q h1 h2 => by
        by_cases cq : q = i
        · subst cq; omega
        · exact h q (by omega) h2)
    · rw [if_neg (fun q => cc ((nIle (by omega) (by omega)).mp q))]
      unfold q_X0_nextChoice_25
      rw [rd_nI (by omega) (by omega), bsome, hP i (by omega), nI1, wr_nI (by omega) (by omega), bsome, nI1]
      obtain ⟨P', g1, g2⟩ := nf_loop (nI many) (sz := sz) (i := i) hsz (c := fun q => if q = i then c i + 1 else c q) (by simp; omega) (sz - (i + 1)) (i + 1) FU (upd P i (nI (c i + 1))) (by omega) (by omega) (by unfold FU; omega) (fun q hq => by
        by_cases cq : q = i
        · subst cq; rw [updS, if_neg (by omega)]; simp
        · rw [updN cq, hP q (by omega), if_pos (by omega)]; simp [cq])
      refine Or.inr ⟨i, by omega, by omega, fun q h1 h2 => h q (by omega) h2, P', g1, fun q hq => ?_⟩
      rw [g2 q hq]
      by_cases cq : q < i
      · rw [if_pos cq, if_pos cq]; simp [show q ≠ i by omega]
      · rw [if_neg cq, if_neg cq]; simp
/-- choices that are left -/
def c2n : Nat → Nat
  | 0 => 0
  | x + 1 => c2n x + x
def c3n : Nat → Nat
  | 0 => 0
  | x + 1 => c3n x + c2n x
def rem (many sz : Nat) (c : Nat → Nat) : Nat := if sz = 0 then 0 else if sz = 1 then many - 1 - c 0 else if sz = 2 then (many - 1 - c 1) + c2n (many - 1 - c 0) else (many - 1 - c 2) + c2n (many - 1 - c 1) + c3n (many - 1 - c 0)
theorem c2n_s {x : Nat} (h : 1 ≤ x) : c2n x = c2n (x - 1) + (x - 1) := by
  obtain ⟨y, rfl⟩ : ∃ y, x = y + 1 := ⟨x - 1, by omega⟩
  rfl
theorem c3n_s {x : Nat} (h : 1 ≤ x) : c3n x = c3n (x - 1) + c2n (x - 1) := by
  obtain ⟨y, rfl⟩ : ∃ y, x = y + 1 := ⟨x - 1, by omega⟩
  rfl
theorem rem_next {many sz k : Nat} (hsz : sz ≤ 3) (hsm : sz ≤ many) (hk : k < sz) {c : Nat → Nat} (hv : Vd many sz c) (h1 : c k < many - sz + k) (h2 : ∀ q, k < q → q < sz → c q = many - sz + q) : rem many sz c = rem many sz (fun q => if q < k then c q else c k + 1 + (q - k)) + 1 := by
  have hs : sz = 1 ∨ sz = 2 ∨ sz = 3 := by omega
  rcases hs with rfl | rfl | rfl
  · have : k = 0 := by omega
    subst this
    simp [rem]
    omega
  · have hk' : k = 0 ∨ k = 1 := by omega
    have v0 := hv.1 0 (by omega)
    have b0 := hv.2 0 (by omega)
    have b1 := hv.2 1 (by omega)
    rcases hk' with rfl | rfl
    · have e := h2 1 (by omega) (by omega)
      simp [rem]
      rw [e, c2n_s (x := many - 1 - c 0) (by omega), show many - 1 - c 0 - 1 = many - 1 - (c 0 + 1) by omega]
      omega
    · simp [rem]
      omega
  · have hk' : k = 0 ∨ k = 1 ∨ k = 2 := by omega
    have v0 := hv.1 0 (by omega)
    have v1 := hv.1 1 (by omega)
    have b0 := hv.2 0 (by omega)
    have b1 := hv.2 1 (by omega)
    have b2 := hv.2 2 (by omega)
    rcases hk' with rfl | rfl | rfl
    · have e := h2 1 (by omega) (by omega)
      have e' := h2 2 (by omega) (by omega)
      simp [rem]
      rw [e, e', c3n_s (x := many - 1 - c 0) (by omega), show many - 1 - c 0 - 1 = many - 1 - (c 0 + 1) by omega, c2n_s (x := many - 1 - (c 0 + 1)) (by omega), show many - 1 - (c 0 + 1) - 1 = many - 1 - (c 0 + 1 + 1) by omega, show many - 1 - (many - 3 + 1) = 1 by omega, show c2n 1 = 0 from rfl]
      omega
    · have e' := h2 2 (by omega) (by omega)
      simp [rem]
      rw [e', c2n_s (x := many - 1 - c 1) (by omega), show many - 1 - c 1 - 1 = many - 1 - (c 1 + 1) by omega]
      omega
    · simp [rem]
      omega
theorem rem_first : ∀ many : Fin 17, ∀ sz : Fin 4, rem many.val sz.val (fun q => q) ≤ 559 := by decide +kernel
end
