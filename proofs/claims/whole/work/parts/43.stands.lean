/-! stands: the same choice -/
section
variable {n m : Nat} {f t w : Nat → Int32} {G : Nat → Nat → Int32}
theorem gsC (hg : gOK n m f t w) (hN : NPC (Ed f t w m 0)) {u v : Nat} (hu : u < n) (hv : v < n) {wt : Int32} (hw1 : -10 ≤ wt.toInt) (hw2 : wt.toInt ≤ 10) (s : Nat) (Y : Nat → Int32) : ∃ o, p_X4_lengthsFrom f t w (nI n) (nI m) Y (nI v) (nI s) = some o ∧ ((GS f t w m v u wt.toInt s ∧ ¬ 0 < o u + wt) ∨ (¬ GS f t w m v u wt.toInt s ∧ 0 < o u + wt)) := by
  have hn := hg.1
  have hN' : NPC (Ed f t w m (nI s)) := hN.sub Ed_sub
  obtain ⟨o, h1, h2⟩ := bf_ok (a := nI s) hg hN' hv Y
  refine ⟨o, h1, ?_⟩
  rcases h2 u (by omega) with ⟨d, q1, q2⟩ | ⟨q1, q2⟩
  · have hd := q1.bd (hg.inV _) hN' (hg.ten _) hn hv
    have es : (o u + wt).toInt = d + wt.toInt := by rw [tadd (by omega) (by omega), q2]
    by_cases c : 0 < o u + wt
    · refine Or.inr ⟨fun hG => ?_, c⟩
      obtain ⟨⟨k, hk⟩, -⟩ := q1
      have := hG k d hk
      have := tlt.mp c
      rw [es, tlit0] at this
      omega
    · refine Or.inl ⟨fun k d' hk => ?_, c⟩
      have a1 := q1.2 _ _ hk
      have a2 : ¬ (0 : Int) < (o u + wt).toInt := fun q => c (tlt.mpr (by rw [tlit0]; exact q))
      omega
  · refine Or.inl ⟨fun k d' hk => (q1 _ _ hk).elim, fun c => ?_⟩
    have := tlt.mp c
    rw [tadd (by rw [q2, tNW]; omega) (by rw [q2, tNW]; omega), q2, tNW, tlit0] at this
    omega
/-- a valid choice that isn't ahead of the greatest .. -/
theorem lx_last {many sz : Nat} {c c' : Nat → Nat} (hv' : Vd many sz c') (hl : ∀ q, q < sz → c q = many - sz + q) : (∀ q, q < sz → c' q = c q) ∨ Lx sz c' c := by
  by_cases h : ∀ q, q < sz → c' q = c q
  · exact Or.inl h
  · have ex : ∃ q, q < sz ∧ c' q ≠ c q := Classical.byContradiction fun g => h fun q hq => Classical.byContradiction fun e => g ⟨q, hq, e⟩
    obtain ⟨q, q1, q2⟩ := ex
    obtain ⟨a, a1, ⟨a2, a2'⟩, a3⟩ := least_one (P := fun q => q < sz ∧ c' q ≠ c q) q ⟨q1, q2⟩
    refine Or.inr ⟨a, a2, fun j hj => Classical.byContradiction fun e => a3 j hj ⟨by omega, e⟩, ?_⟩
    have := hv'.2 a a2
    have := hl a a2
    omega
theorem Vd.up {many sz : Nat} {c : Nat → Nat} (h : Vd many sz c) (q : Nat) : ∀ d, q + d < sz → c q + d ≤ c (q + d)
  | 0, _ => Nat.le_refl _
  | d + 1, hd => by
    have := Vd.up h q d (by omega)
    have := h.1 (q + d) (by omega)
    rw [show q + (d + 1) = q + d + 1 by omega]
    omega
theorem lx_next {many sz k : Nat} {c c' : Nat → Nat} (hk : k < sz) (hv' : Vd many sz c') (h2 : ∀ q, k < q → q < sz → c q = many - sz + q) (hx : Lx sz c' (fun q => if q < k then c q else c k + 1 + (q - k))) : (∀ q, q < sz → c' q = c q) ∨ Lx sz c' c := by
  obtain ⟨a, a1, a2, a3⟩ := hx
  have a2' : ∀ q, q < a → c' q = if q < k then c q else c k + 1 + (q - k) := a2
  have a3' : c' a < if a < k then c a else c k + 1 + (a - k) := a3
  rcases Nat.lt_trichotomy a k with h | h | h
  · rw [if_pos h] at a3'
    exact Or.inr ⟨a, a1, fun q hq => by rw [a2' q hq, if_pos (by omega)], a3'⟩
  · subst h
    rw [if_neg (by omega)] at a3'
    have below : ∀ q, q < a → c' q = c q := fun q hq => by rw [a2' q hq, if_pos (by omega)]
    by_cases e : c' a = c a
    · by_cases g : ∀ q, q < sz → c' q = c q
      · exact Or.inl g
      · have ex : ∃ q, q < sz ∧ c' q ≠ c q := Classical.byContradiction fun gg => g fun q hq => Classical.byContradiction fun e => gg ⟨q, hq, e⟩
        obtain ⟨q, q1, q2⟩ := ex
        obtain ⟨b, b1, ⟨b2, b2'⟩, b3⟩ := least_one (P := fun q => q < sz ∧ c' q ≠ c q) q ⟨q1, q2⟩
        refine Or.inr ⟨b, b2, fun j hj => Classical.byContradiction fun e => b3 j hj ⟨by omega, e⟩, ?_⟩
        have hb : a < b := by
          rcases Nat.lt_trichotomy a b with h | h | h
          · exact h
          · subst h; exact (b2' e).elim
          · exact (b2' (below b h)).elim
        have := hv'.2 b b2
        have := h2 b hb b2
        omega
    · exact Or.inr ⟨a, a1, below, by omega⟩
  · rw [if_neg (by omega)] at a3'
    have e1 := a2' k h
    rw [if_neg (by omega)] at e1
    have := hv'.up k (a - k) (by omega)
    rw [show k + (a - k) = a by omega] at this
    omega
def cOut (f t w : Nat → Int32) (m v u : Nat) (wt : Int) (W : Nat → Nat) (many sz : Nat) (c : Nat → Nat) : Prop := Vd many sz c ∧ GS f t w m v u wt (Sc W c sz) ∧ ∀ c', Vd many sz c' → Lx sz c' c → ¬ GS f t w m v u wt (Sc W c' sz)
theorem Sc_congr {W c c' : Nat → Nat} {sz : Nat} (h : ∀ q, q < sz → c q = c' q) : Sc W c sz = Sc W c' sz := pb_congr W sz 0 0 (fun q _ h2 => h q (by omega))
theorem ch60 (hg : gOK n m f t w) (hN : NPC (Ed f t w m 0)) {u v : Nat} (hu : u < n) (hv : v < n) {wt : Int32} (hw1 : -10 ≤ wt.toInt) (hw2 : wt.toInt ≤ 10) {A : Nat → Int32} {many : Nat} {W : Nat → Nat} (hm : many ≤ 16) (hA : ∀ q, q < many → A q = nI (W q) ∧ W q < 16) {sz : Nat} (hsz : sz ≤ 3) (hsm : sz ≤ many) (k14 : Int32 → (Nat → Int32) → (Nat → Int32) → (Nat → Int32) → Int32 → Option (Int32 × (Nat → Int32) × (Nat → Int32) × (Nat → Int32) × Int32)) : ∀ (r T fuel : Nat) (P Y : Nat → Int32) (c : Nat → Nat), rem many sz c = r → T + r ≤ 559 → r + 1 < fuel → Vd many sz c → (∀ q, q < sz → P q = nI (c q)) → (∀ c', Vd many sz c' → Lx sz c' c → ¬ GS f t w m v u wt.toInt (Sc W c' sz)) → (∃ P' Y' c', q_X0_choose_60 f t w (nI n) (nI m) G (nI u) wt (nI v) k14 fuel (nI T) 1 (nI sz) A P Y (nI many) = some (nI sz, A, P', Y', nI many) ∧ (∀ q, q < sz → P' q = nI (c' q)) ∧ cOut f t w m v u wt.toInt W many sz c') ∨ (∃ P' Y', q_X0_choose_60 f t w (nI n) (nI m) G (nI u) wt (nI v) k14 fuel (nI T) 1 (nI sz) A P Y (nI many) = k14 (nI (sz + 1)) A P' Y' (nI many) ∧ ∀ c', Vd many sz c' → ¬ GS f t w m v u wt.toInt (Sc W c' sz))
  | r, T, 0, P, Y, c, _, _, hf, _, _, _ => absurd hf (Nat.not_lt_zero _)
  | r, T, fuel + 1, P, Y, c, hr, hT, hf, hc, hP, hx => by
    have hn := hg.1
    have hpk := pk_bits (P := P) (c := c) hm hA hsz (fun q hq => ⟨hP q hq, by have := hc.2 q hq; omega⟩) sz 0 FU 0 (by omega) (by unfold FU; omega)
    rw [nI_0] at hpk
    have hpk' : p_X0_pickedBits A P (nI sz) = some (nI (Sc W c sz)) := hpk
    obtain ⟨o, o1, o2⟩ := gsC hg hN hu hv hw1 hw2 (Sc W c sz) Y
    rw [q_X0_choose_60.eq_2, if_neg (show ¬ (560 : Int32) ≤ nI T from nI_ge (a := T) (b := 560) (by omega) (by omega)), if_neg (show ¬ (1 : Int32) = 0 by decide), hpk', bsome, o1, bsome, rd_nI (by omega) (by omega), bsome]
    rcases o2 with ⟨g1, g2⟩ | ⟨g1, g2⟩
    · rw [if_neg g2]
      exact Or.inl ⟨P, o, c, rfl, hP, hc, g1, hx⟩
    · rw [if_pos g2]
      have hns := ns_loop hm hsz hsm hc hP sz FU (Nat.le_refl _) (by unfold FU; omega) (fun q h1 h2 => by omega)
      rcases hns with ⟨l1, l2⟩ | ⟨k, k1, k2, k3, P', k4, k5⟩
      · have l2' : p_X0_nextChoice P (nI many) (nI sz) = some (0, P) := l2
        refine Or.inr ⟨P, o, ?_, fun c' hc' => ?_⟩
        · rw [l2', nI1]
          refine bsome.trans ?_
          obtain ⟨fuel, rfl⟩ : ∃ q, fuel = q + 1 := ⟨fuel - 1, by omega⟩
          show q_X0_choose_60 f t w (nI n) (nI m) G (nI u) wt (nI v) k14 (fuel + 1) (nI (T + 1)) 0 (nI sz) A P o (nI many) = _
          rw [q_X0_choose_60.eq_2, if_pos (rfl : (0 : Int32) = 0), ite_self]
          unfold q_X0_choose_118
          rw [nI1]
        · rcases lx_last hc' l1 with q | q
          · rw [Sc_congr q]; exact g1
          · exact hx c' hc' q
      · have k4' : p_X0_nextChoice P (nI many) (nI sz) = some (1, P') := k4
        have hrn := rem_next hsz hsm k1 hc k2 k3
        have hc2 : Vd many sz (fun q => if q < k then c q else c k + 1 + (q - k)) := by
          refine ⟨fun q hq => ?_, fun q hq => ?_⟩
          · show (if q < k then c q else c k + 1 + (q - k)) < (if q + 1 < k then c (q + 1) else c k + 1 + (q + 1 - k))
            have := hc.1 q hq
            by_cases e1 : q + 1 < k
            · rw [if_pos (by omega), if_pos e1]; exact this
            · rw [if_neg e1]
              by_cases e2 : q < k
              · rw [if_pos e2]
                have : q + 1 = k := by omega
                subst this
                omega
              · rw [if_neg e2]; omega
          · show (if q < k then c q else c k + 1 + (q - k)) + (sz - q) ≤ many
            have := hc.2 q hq
            by_cases e2 : q < k
            · rw [if_pos e2]; exact this
            · rw [if_neg e2]; omega
        obtain ⟨r, rfl⟩ : ∃ q, r = q + 1 := ⟨r - 1, by omega⟩
        have go := ch60 hg hN hu hv hw1 hw2 hm hA hsz hsm k14 r (T + 1) fuel P' o _ (by omega) (by omega) (by omega) hc2 k5 (fun c' hc' hl => by
          rcases lx_next k1 hc' k3 hl with q | q
          · rw [Sc_congr q]; exact g1
          · exact hx c' hc' q)
        have e : ((p_X0_nextChoice P (nI many) (nI sz)).bind fun (r11, g12) => q_X0_choose_60 f t w (nI n) (nI m) G (nI u) wt (nI v) k14 fuel (nI T + 1) r11 (nI sz) A g12 o (nI many)) = q_X0_choose_60 f t w (nI n) (nI m) G (nI u) wt (nI v) k14 fuel (nI (T + 1)) 1 (nI sz) A P' o (nI many) := by rw [k4', nI1]; rfl
        rw [e]
        exact go
theorem ch32 {A : Nat → Int32} {many : Nat} {sz : Nat} (hsz : sz ≤ 3) (u v : Nat) (wt : Int32) (k14 : Int32 → (Nat → Int32) → (Nat → Int32) → (Nat → Int32) → Int32 → Option (Int32 × (Nat → Int32) × (Nat → Int32) × (Nat → Int32) × Int32)) : ∀ (r j fuel : Nat) (P Y : Nat → Int32), j + r = sz → r < fuel → (∀ q, q < j → P q = nI q) → ∃ P', q_X0_choose_32 f t w (nI n) (nI m) G (nI u) wt (nI v) k14 fuel (nI j) (nI sz) A P Y (nI many) = q_X0_choose_60 f t w (nI n) (nI m) G (nI u) wt (nI v) k14 FU 0 1 (nI sz) A P' Y (nI many) ∧ ∀ q, q < sz → P' q = nI q
  | r, j, 0, P, Y, _, hf, _ => absurd hf (Nat.not_lt_zero _)
  | 0, j, fuel + 1, P, Y, hj, _, h => by
    rw [q_X0_choose_32.eq_2, if_pos ((nIle (by omega) (by omega)).mpr (by omega))]
    exact ⟨P, rfl, fun q hq => h q (by omega)⟩
  | r + 1, j, fuel + 1, P, Y, hj, hf, h => by
    rw [q_X0_choose_32.eq_2, if_neg (nI_ge (a := j) (b := sz) (by omega) (by omega)), wr_nI (by omega) (by omega), bsome, nI1]
    refine ch32 hsz u v wt k14 r (j + 1) fuel _ Y (by omega) (by omega) (fun q hq => ?_)
    by_cases c : q = j
    · subst c; rw [updS]
    · rw [updN c]; exact h q (by omega)
theorem ch14 (hg : gOK n m f t w) (hN : NPC (Ed f t w m 0)) {u v : Nat} (hu : u < n) (hv : v < n) {wt : Int32} (hw1 : -10 ≤ wt.toInt) (hw2 : wt.toInt ≤ 10) {A : Nat → Int32} {many : Nat} {W : Nat → Nat} (hm : many ≤ 16) (hA : ∀ q, q < many → A q = nI (W q) ∧ W q < 16) : ∀ (r sz fuel : Nat) (P Y : Nat → Int32), sz + r = 4 → r < fuel → (∀ sz' c, sz' < sz → Vd many sz' c → ¬ GS f t w m v u wt.toInt (Sc W c sz')) → (∃ sz' P' Y' c, sz' ≤ 3 ∧ q_X0_choose_14 f t w (nI n) (nI m) G (nI u) wt (nI v) fuel (nI sz) A P Y (nI many) = some (nI sz', A, P', Y', nI many) ∧ (∀ q, q < sz' → P' q = nI (c q)) ∧ cOut f t w m v u wt.toInt W many sz' c ∧ ∀ sz'' c', sz'' < sz' → Vd many sz'' c' → ¬ GS f t w m v u wt.toInt (Sc W c' sz'')) ∨ (∃ P' Y', q_X0_choose_14 f t w (nI n) (nI m) G (nI u) wt (nI v) fuel (nI sz) A P Y (nI many) = some (-4, A, P', Y', nI many) ∧ ∀ sz' c, sz' ≤ 3 → Vd many sz' c → ¬ GS f t w m v u wt.toInt (Sc W c sz'))
  | r, sz, 0, P, Y, _, hf, _ => absurd hf (Nat.not_lt_zero _)
  | r, sz, fuel + 1, P, Y, hs, hf, h => by
    rw [q_X0_choose_14.eq_2]
    cases r with
    | zero =>
      have : sz = 4 := by omega
      subst this
      rw [if_pos (show (3 : Int32) < nI 4 by decide)]
      exact Or.inr ⟨P, Y, rfl, fun sz' c h1 h2 => h sz' c (by omega) h2⟩
    | succ r =>
      rw [if_neg (show ¬ (3 : Int32) < nI sz from fun q => by have := (nIlt (a := 3) (b := sz) (by omega) (by omega)).mp q; omega)]
      by_cases c : many < sz
      · rw [if_pos (nI_lt c (by omega))]
        refine Or.inr ⟨P, Y, rfl, fun sz' c' h1 h2 => ?_⟩
        by_cases e : sz' < sz
        · exact h sz' c' e h2
        · have := h2.2 0 (by omega)
          omega
      · rw [if_neg (fun q => c ((nIlt (by omega) (by omega)).mp q))]
        obtain ⟨P1, e1, e2⟩ := ch32 (f := f) (t := t) (w := w) (n := n) (m := m) (G := G) (A := A) (many := many) (sz := sz) (by omega) u v wt (q_X0_choose_14 f t w (nI n) (nI m) G (nI u) wt (nI v) fuel) sz 0 FU P Y (by omega) (by unfold FU; omega) (fun q hq => absurd hq (Nat.not_lt_zero _))
        rw [nI_0] at e1
        rw [e1]
        have hrem := rem_first ⟨many, by omega⟩ ⟨sz, by omega⟩
        have hrem' : rem many sz (fun q => q) ≤ 559 := hrem
        have run := ch60 (G := G) hg hN hu hv hw1 hw2 hm hA (sz := sz) (by omega) (by omega) (q_X0_choose_14 f t w (nI n) (nI m) G (nI u) wt (nI v) fuel) _ 0 FU P1 Y (fun q => q) rfl (by omega) (by unfold FU; omega) ⟨fun q hq => by show q < q + 1; omega, fun q hq => by show q + (sz - q) ≤ many; omega⟩ e2 (fun c' hc' ⟨a, a1, a2, a3⟩ => by
          have := hc'.up 0 a (by omega)
          rw [Nat.zero_add] at this
          have a3' : c' a < a := a3
          omega)
        rw [nI_0] at run
        rcases run with ⟨P', Y', c', q1, q2, q3⟩ | ⟨P', Y', q1, q2⟩
        · exact Or.inl ⟨sz, P', Y', c', by omega, q1, q2, q3, fun sz'' c'' h1 h2 => h sz'' c'' h1 h2⟩
        · rw [q1]
          exact ch14 hg hN hu hv hw1 hw2 hm hA r (sz + 1) fuel P' Y' (by omega) (by omega) (fun sz' c' h1 h2 => by
            by_cases e : sz' = sz
            · subst e; exact q2 c' h2
            · exact h sz' c' (by omega) h2)
end
