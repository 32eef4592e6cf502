/-! loose -/
section
variable {n m : Nat} {k f t w row : Nat → Int32} {G : Nat → Nat → Int32}
theorem loose_step (hS : SM n m k f t w row) {R e : Nat → Int32} (hG : GM n G R) {u : Nat} (hu : u < n) (hf : p_X4_isFloating k (nI u) = some 1) (a2 : Int32) {r : Nat} (hr : r < n) : ∃ lo pi : Int32, (lo = 0 ∨ lo = 1) ∧ (pi = 0 ∨ pi = 1) ∧ (∀ fuel, q_X6_isLoose_2 k (nI n) G (nI u) (fuel + 1) (nI r) = if lo = 0 then some 0 else q_X6_isLoose_2 k (nI n) G (nI u) fuel (nI (r + 1))) ∧ (∀ fuel, q_X6_isPinned_2 k (nI n) G (nI u) (fuel + 1) (nI r) = if pi = 0 then q_X6_isPinned_2 k (nI n) G (nI u) fuel (nI (r + 1)) else some 1) ∧ ∀ (fuel : Nat) (v4 v3 : Int32), (v4 = 0 ∨ v4 = 1) → (v3 = 0 ∨ v3 = 1) → q_X7_loose_43 (nI n) row (nI u) a2 (fuel + 1) (nI r) v4 v3 R e = q_X7_loose_43 (nI n) row (nI u) a2 fuel (nI (r + 1)) (if v4 = 0 then pi else 1) (if v3 = 0 then 0 else lo) R e := by
  have hn := hS.n10
  obtain ⟨b, hb, f1, f2⟩ := floatC hS hr
  have hle := nI_ge (a := r) (b := n) hr (by omega)
  -- pinned
  obtain ⟨pi, hpi, P1, P2⟩ : ∃ pi : Int32, (pi = 0 ∨ pi = 1) ∧ (∀ fuel, q_X6_isPinned_2 k (nI n) G (nI u) (fuel + 1) (nI r) = if pi = 0 then q_X6_isPinned_2 k (nI n) G (nI u) fuel (nI (r + 1)) else some 1) ∧ ∀ (k43 : Int32 → Int32 → Int32 → (Nat → Int32) → (Nat → Int32) → Option (Int32 × (Nat → Int32) × (Nat → Int32))) (v4 s0 : Int32), (v4 = 0 ∨ v4 = 1) → q_X7_loose_98 (nI n) row (nI u) a2 k43 (nI r) v4 s0 R e = k43 (nI (r + 1)) (if v4 = 0 then pi else 1) s0 R e := by
    rcases rootC hS hG hu hf hr with ⟨p1, p2⟩ | ⟨p1, p2, p3, p4, p5, p6⟩
    · refine ⟨0, Or.inl rfl, fun fuel => ?_, fun k43 v4 s0 hv => ?_⟩
      · rw [q_X6_isPinned_2.eq_2, if_neg hle, p1, bsome, z1, z1, nI1]
      · unfold q_X7_loose_98
        rcases hv with rfl | rfl
        · rw [z1, p2, bsome, z1, z1, nI1]
        · rw [z0, z0, nI1]
    · have e1 : rd R 100 (10 * nI r + nI u) = some (R (10 * r + u)) := by rw [ten, rd_nI (by omega) (by omega)]
      have e2 : rd R 100 (10 * nI u + nI r) = some (R (10 * u + r)) := by rw [ten, rd_nI (by omega) (by omega)]
      have i1 : ix 10 (nI r) = some r := ix_nI (by omega) (by omega)
      have i2 : ix 10 (nI u) = some u := ix_nI (by omega) (by omega)
      have g1 : rd (G r) 10 (nI u) = some (G r u) := rd_nI (by omega) (by omega)
      have g2 : rd (G u) 10 (nI r) = some (G u r) := rd_nI (by omega) (by omega)
      by_cases hz : R (10 * r + u) + R (10 * u + r) = 0
      · refine ⟨1, Or.inr rfl, fun fuel => ?_, fun k43 v4 s0 hv => ?_⟩
        · rw [q_X6_isPinned_2.eq_2, if_neg hle, p1, bsome, z0]
          rcases leadsC hn hG hu hr with ⟨q1, -⟩ | ⟨q1, -, -, q2, -⟩
          · exfalso
            have q3 : R (10 * u + r) = -100000 := by
              rcases hG u r hu hr with ⟨-, q⟩ | ⟨-, q, -⟩
              · exact q
              · rw [q1, tNW] at q; omega
            rw [q3] at hz
            have hz' := congrArg Int32.toInt hz
            rw [tadd (by rw [tFAR]; omega) (by rw [tFAR]; omega), tFAR, tlit0] at hz'
            omega
          · rw [q2, bsome, z0, i1, bsome, g1, bsome, i2, bsome, g2, bsome, p4, q1, if_pos hz, z0]
        · unfold q_X7_loose_98
          rcases hv with rfl | rfl
          · rw [z1, p2, bsome, z0, e1, bsome, e2, bsome, if_pos hz, z1, nI1]
          · rw [z0, z0, nI1]
      · refine ⟨0, Or.inl rfl, fun fuel => ?_, fun k43 v4 s0 hv => ?_⟩
        · rw [q_X6_isPinned_2.eq_2, if_neg hle, p1, bsome, z0, z1, nI1]
          rcases leadsC hn hG hu hr with ⟨-, q2, -⟩ | ⟨q1, -, -, q2, -⟩
          · rw [q2, bsome, z1]
          · rw [q2, bsome, z0, i1, bsome, g1, bsome, i2, bsome, g2, bsome, p4, q1, if_neg hz]
        · unfold q_X7_loose_98
          rcases hv with rfl | rfl
          · rw [z1, p2, bsome, z0, e1, bsome, e2, bsome, if_neg hz, z1, nI1]
          · rw [z0, z0, nI1]
  -- loose
  have fin : ∀ (lo : Int32), (lo = 0 ∨ lo = 1) → (∀ fuel, q_X6_isLoose_2 k (nI n) G (nI u) (fuel + 1) (nI r) = if lo = 0 then some 0 else q_X6_isLoose_2 k (nI n) G (nI u) fuel (nI (r + 1))) → (∀ (fuel : Nat) (v4 : Int32), ((p_X7_isRoot row R (nI r) (nI u)).bind fun r4 => if r4 = 0 then ((p_X7_isFloating row (nI r)).bind fun r7 => if r7 = 0 then ((rd R 100 (10 * nI u + nI r)).bind fun x9 => (p_X7_isWay x9).bind fun r12 => if r12 = 0 then (q_X7_loose_93 (nI n) row (nI u) a2 (q_X7_loose_43 (nI n) row (nI u) a2 fuel) (nI r) v4 R e) else (q_X7_loose_97 (nI n) row (nI u) a2 (q_X7_loose_43 (nI n) row (nI u) a2 fuel) (nI r) v4 R e)) else (q_X7_loose_93 (nI n) row (nI u) a2 (q_X7_loose_43 (nI n) row (nI u) a2 fuel) (nI r) v4 R e)) else (q_X7_loose_97 (nI n) row (nI u) a2 (q_X7_loose_43 (nI n) row (nI u) a2 fuel) (nI r) v4 R e)) = q_X7_loose_98 (nI n) row (nI u) a2 (q_X7_loose_43 (nI n) row (nI u) a2 fuel) (nI r) v4 lo R e) → ∃ lo pi : Int32, (lo = 0 ∨ lo = 1) ∧ (pi = 0 ∨ pi = 1) ∧ (∀ fuel, q_X6_isLoose_2 k (nI n) G (nI u) (fuel + 1) (nI r) = if lo = 0 then some 0 else q_X6_isLoose_2 k (nI n) G (nI u) fuel (nI (r + 1))) ∧ (∀ fuel, q_X6_isPinned_2 k (nI n) G (nI u) (fuel + 1) (nI r) = if pi = 0 then q_X6_isPinned_2 k (nI n) G (nI u) fuel (nI (r + 1)) else some 1) ∧ ∀ (fuel : Nat) (v4 v3 : Int32), (v4 = 0 ∨ v4 = 1) → (v3 = 0 ∨ v3 = 1) → q_X7_loose_43 (nI n) row (nI u) a2 (fuel + 1) (nI r) v4 v3 R e = q_X7_loose_43 (nI n) row (nI u) a2 fuel (nI (r + 1)) (if v4 = 0 then pi else 1) (if v3 = 0 then 0 else lo) R e := fun lo hlo h1 h2 => by
    refine ⟨lo, pi, hlo, hpi, h1, P1, fun fuel v4 v3 hv4 hv3 => ?_⟩
    rw [q_X7_loose_43.eq_2, if_neg hle]
    rcases hv3 with rfl | rfl
    · rw [z1, z1]
      unfold q_X7_loose_97
      exact P2 _ v4 0 hv4
    · rw [z0, z0, h2 fuel v4]
      exact P2 _ v4 lo hv4
  rcases hb with rfl | rfl
  · -- r is not floating
    rcases leadsC hn hG hr hu with ⟨q1, q2, q3, q4⟩ | ⟨q1, -, -, q2, q3, q4⟩
    · rcases leadsC hn hG hu hr with ⟨p1, p2, p3, p4⟩ | ⟨p1, -, -, p2, p3, p4⟩
      · refine fin 1 (Or.inr rfl) (fun fuel => ?_) (fun fuel v4 => ?_)
        · rw [q_X6_isLoose_2.eq_2, if_neg hle, f1, bsome, z1, q2, bsome, z1, p2, bsome, z1, z0, nI1]
        · unfold p_X7_isRoot
          rw [f2, bsome, z1, q3, bsome, q4, bsome, z1, bsome, z1, bsome, z1, p3, bsome, p4, bsome, z1]
          rfl
      · refine fin 0 (Or.inl rfl) (fun fuel => ?_) (fun fuel v4 => ?_)
        · rw [q_X6_isLoose_2.eq_2, if_neg hle, f1, bsome, z1, q2, bsome, z1, p2, bsome, z0, z1]
        · unfold p_X7_isRoot
          rw [f2, bsome, z1, q3, bsome, q4, bsome, z1, bsome, z1, bsome, z1, p3, bsome, p4, bsome, z0]
          rfl
    · refine fin 0 (Or.inl rfl) (fun fuel => ?_) (fun fuel v4 => ?_)
      · rw [q_X6_isLoose_2.eq_2, if_neg hle, f1, bsome, z1, q2, bsome, z0, z1]
      · unfold p_X7_isRoot
        rw [f2, bsome, z1, q3, bsome, q4, bsome, z0, bsome, z0]
        rfl
  · refine fin 1 (Or.inr rfl) (fun fuel => ?_) (fun fuel v4 => ?_)
    · rw [q_X6_isLoose_2.eq_2, if_neg hle, f1, bsome, z0, z0, nI1]
    · unfold p_X7_isRoot
      rw [f2, bsome, z0, bsome, z1, bsome, z0]
      rfl
theorem loose_loop (hS : SM n m k f t w row) {R e : Nat → Int32} (hG : GM n G R) {u : Nat} (hu : u < n) (hf : p_X4_isFloating k (nI u) = some 1) (a2 : Int32) : ∀ (q r fuel : Nat) (v4 v3 : Int32), r + q = n → q < fuel → (v4 = 0 ∨ v4 = 1) → (v3 = 0 ∨ v3 = 1) → ∃ lo pi : Int32, (lo = 0 ∨ lo = 1) ∧ (pi = 0 ∨ pi = 1) ∧ q_X6_isLoose_2 k (nI n) G (nI u) fuel (nI r) = some lo ∧ q_X6_isPinned_2 k (nI n) G (nI u) fuel (nI r) = some pi ∧ q_X7_loose_43 (nI n) row (nI u) a2 fuel (nI r) v4 v3 R e = q_X7_loose_155 (nI n) row (nI u) a2 (if v4 = 0 then pi else 1) (if v3 = 0 then 0 else lo) R e
  | q, r, 0, v4, v3, _, hf9, _, _ => absurd hf9 (Nat.not_lt_zero _)
  | 0, r, fuel + 1, v4, v3, hr, _, hv4, hv3 => by
    have hn := hS.n10
    have hle := nI_le (a := n) (b := r) (by omega) (by omega)
    refine ⟨1, 0, Or.inr rfl, Or.inl rfl, by rw [q_X6_isLoose_2.eq_2, if_pos hle], by rw [q_X6_isPinned_2.eq_2, if_pos hle], ?_⟩
    rw [q_X7_loose_43.eq_2, if_pos hle]
    rcases hv4 with rfl | rfl <;> rcases hv3 with rfl | rfl <;> rfl
  | q + 1, r, fuel + 1, v4, v3, hr, hf9, hv4, hv3 => by
    obtain ⟨lo, pi, hlo, hpi, h1, h2, h3⟩ := loose_step hS (e := e) hG hu hf a2 (show r < n by omega)
    have hp4 : (if v4 = 0 then pi else 1) = 0 ∨ (if v4 = 0 then pi else 1) = 1 := by
      rcases hv4 with rfl | rfl
      · rw [z1]; exact hpi
      · rw [z0]; exact Or.inr rfl
    have hp3 : (if v3 = 0 then 0 else lo) = 0 ∨ (if v3 = 0 then 0 else lo) = 1 := by
      rcases hv3 with rfl | rfl
      · rw [z1]; exact Or.inl rfl
      · rw [z0]; exact hlo
    obtain ⟨lo', pi', hlo', hpi', g1, g2, g3⟩ := loose_loop hS (e := e) hG hu hf a2 q (r + 1) fuel (if v4 = 0 then pi else 1) (if v3 = 0 then 0 else lo) (by omega) (by omega) hp4 hp3
    refine ⟨if lo = 0 then 0 else lo', if pi = 0 then pi' else 1, ?_, ?_, ?_, ?_, ?_⟩
    · rcases hlo with rfl | rfl
      · rw [z1]; exact Or.inl rfl
      · rw [z0]; exact hlo'
    · rcases hpi with rfl | rfl
      · rw [z1]; exact hpi'
      · rw [z0]; exact Or.inr rfl
    · rw [h1]
      rcases hlo with rfl | rfl
      · rw [z1, z1]
      · rw [z0, z0, g1]
    · rw [h2]
      rcases hpi with rfl | rfl
      · rw [z1, z1, g2]
      · rw [z0, z0]
    · rw [h3 fuel v4 v3 hv4 hv3, g3]
      rcases hv4 with rfl | rfl <;> rcases hv3 with rfl | rfl <;> rcases hlo with rfl | rfl <;> rcases hpi with rfl | rfl <;> rfl
theorem e_loose (hS : SM n m k f t w row) (hL : LG n m f t w G) (R0 e0 : Nat → Int32) (a b : Int32) : ∃ r R e, p_X6_loose k (nI n) G a b = some r ∧ p_X7_loose (nI n) row R0 e0 a b = some (r, R, e) := by
  have hn := hS.n10
  unfold p_X6_loose p_X7_loose
  rcases lvC hn a with ⟨h1, h2⟩ | ⟨u, hu, rfl, h1, h2⟩
  · rw [h1, h2]; exact ⟨-1, R0, e0, rfl, rfl⟩
  rw [h1, h2, bsome, bsome, z0, z0]
  rcases (ii (x := b) (L := 0) (H := 1) (a := 0) (b := 1) (by decide) (by decide)).symm with ⟨b1, h4⟩ | ⟨b1, b2, h4⟩
  · rw [h4]
    refine ⟨-1, R0, e0, ?_, rfl⟩
    by_cases c : b < 0
    · rw [if_pos c]
    · have c' : ¬ b.toInt < 0 := fun q => c (tlt.mpr q)
      rw [if_neg c, if_neg (fun q => by have := tle.mp q; rw [tlit1] at this; omega)]
  rw [h4, bsome, z0, if_neg (fun q => by have := tlt.mp q; rw [tlit0] at this; omega), if_pos (show b ≤ 1 from tle.mpr (by rw [tlit1]; omega))]
  obtain ⟨c, hc, f1, f2⟩ := floatC hS hu
  rcases hc with rfl | rfl
  · rw [f1, f2]; exact ⟨-2, R0, e0, rfl, rfl⟩
  obtain ⟨R, e, g1, g2, -⟩ := hS.find hL R0 e0
  obtain ⟨lo, pi, hlo, hpi, q1, q2, q3⟩ := loose_loop hS (e := e) g2 hu f1 b n 0 FU 0 1 (by omega) (by unfold FU; omega) (Or.inl rfl) (Or.inr rfl)
  rw [nI_0] at q1 q2 q3
  rw [z1, z0] at q3
  by_cases hb0 : b = 0
  · refine ⟨lo, R, e, ?_, ?_⟩
    · rw [f1, bsome, z0, if_pos hb0]
      unfold p_X6_isLoose
      rw [q1]
      rcases hlo with rfl | rfl <;> rfl
    · rw [f2, bsome, z0, g1]
      refine bsome.trans (q3.trans ?_)
      unfold q_X7_loose_155
      rw [if_pos hb0]
      rcases hlo with rfl | rfl <;> rfl
  · refine ⟨pi, R, e, ?_, ?_⟩
    · rw [f1, bsome, z0, if_neg hb0]
      unfold p_X6_isPinned
      rw [q2]
      rcases hpi with rfl | rfl <;> rfl
    · rw [f2, bsome, z0, g1]
      refine bsome.trans (q3.trans ?_)
      unfold q_X7_loose_155
      rw [if_neg hb0]
      rcases hpi with rfl | rfl <;> rfl
end
