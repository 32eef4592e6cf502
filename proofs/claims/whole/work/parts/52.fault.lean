/-! the whole text: the same fault, or the same items -/
def GT (X_c : Nat → Int32) (len N nAf : Nat) (askF kindF : Nat → Int32) : Nat → Nat → Nat → Nat → Prop
  | 0, _, _, _ => False
  | r + 1, j, L, nA => (j = len ∧ L = N ∧ nA = nAf) ∨ (∃ j', j + 3 ≤ j' ∧ j' ≤ len ∧ L < 10 ∧ 0 ≤ (kindF L).toInt ∧ (kindF L).toInt ≤ 3 ∧ itV X_c len j j' L (kindF L) ∧ GT X_c len N nAf askF kindF r j' (L + 1) nA) ∨ (∃ uu vv j', j + 7 ≤ j' ∧ j' ≤ len ∧ uu < L ∧ vv < L ∧ uu ≠ vv ∧ askF (4 * nA) = nI uu ∧ askF (4 * nA + 2) = nI vv ∧ -9 ≤ (askF (4 * nA + 1)).toInt ∧ (askF (4 * nA + 1)).toInt ≤ 9 ∧ itC X_c len j j' L uu vv (askF (4 * nA + 1)) ∧ GT X_c len N nAf askF kindF r j' L (nA + 1))
section
variable {len : Nat} {X_c text : Nat → Int32}
theorem rd_all (h : TXr len X_c text) : ∀ (r j L nA it fuel fuel2 : Nat) (asked kinds num X_d : Nat → Int32), j ≤ len → len - j < r → L ≤ 10 → 7 * nA ≤ j → 3 * it ≤ j → r ≤ fuel → r ≤ fuel2 →
    (∃ p X_d' L' A' as' ki' sp' nu', q_X5_firstFault_6 X_c (nI len) fuel (nI it) (nI j) (nI L) X_d = some (nI p, X_d') ∧ p < len ∧ q_X7_readAll_9 (nI len) text fuel2 (nI L) (nI nA) asked kinds (nI j) num = some (nI p, L', A', as', ki', sp', nu')) ∨
    (∃ X_d' N nAf as' ki' sp' nu', q_X5_firstFault_6 X_c (nI len) fuel (nI it) (nI j) (nI L) X_d = some (-4, X_d') ∧ q_X7_readAll_9 (nI len) text fuel2 (nI L) (nI nA) asked kinds (nI j) num = some (-4, nI N, nI nAf, as', ki', sp', nu') ∧ N ≤ 10 ∧ nAf ≤ 28 ∧ (∀ i, i < L → ki' i = kinds i) ∧ (∀ q, q < 4 * nA → as' q = asked q) ∧ GT X_c len N nAf as' ki' r j L nA)
  | 0, j, L, nA, it, fuel, fuel2, asked, kinds, num, X_d, _, hr, _, _, _, _, _ => absurd hr (Nat.not_lt_zero _)
  | r + 1, j, L, nA, it, 0, fuel2, asked, kinds, num, X_d, _, _, _, _, _, hf, _ => absurd hf (by omega)
  | r + 1, j, L, nA, it, fuel + 1, 0, asked, kinds, num, X_d, _, _, _, _, _, _, hf => absurd hf (by omega)
  | r + 1, j, L, nA, it, fuel + 1, fuel2 + 1, asked, kinds, num, X_d, hj, hr, hL, hA, hit, hf, hf2 => by
    have hlen := h.1
    rw [q_X5_firstFault_6.eq_2, q_X7_readAll_9.eq_2, if_neg (show ¬ (200 : Int32) ≤ nI it from nI_ge (a := it) (b := 200) (by omega) (by omega))]
    by_cases c : j = len
    · subst c
      rw [if_pos ((nIle (by omega) (by omega)).mpr (Nat.le_refl _)), if_pos ((nIle (by omega) (by omega)).mpr (Nat.le_refl _))]
      exact Or.inr ⟨X_d, L, nA, asked, kinds, nI j, num, rfl, rfl, hL, by omega, fun _ _ => rfl, fun _ _ => rfl, Or.inl ⟨rfl, rfl, rfl⟩⟩
    · rw [if_neg (nI_ge (a := j) (b := len) (by omega) (by omega)), if_neg (nI_ge (a := j) (b := len) (by omega) (by omega))]
      rcases e_item h (j := j) (L := L) (nA := nA) (by omega) hL (by omega) with ⟨⟨cc, b1, b2⟩, b3⟩ | ⟨j', kd, b1, b2, b3, b4, b5, ⟨b6, b7, b8⟩, b9⟩ | ⟨uu, vv, j', kk, b1, b2, b3, b4, b5, b6, b7, b8, b9⟩
      · obtain ⟨rr, X', g1, g2⟩ := b2 X_d
        obtain ⟨L', A', as', ki', sp', nu', g3⟩ := b3 asked kinds num
        refine Or.inl ⟨j, X', L', A', as', ki', sp', nu', ?_, by omega, ?_⟩
        · rw [g1]
          refine bsome.trans ?_
          show (if rr < 0 then _ else (p_X5_letterAt X_c (nI len) (nI j)).bind _) = _
          by_cases cr : rr < 0
          · rw [if_pos cr]
          · rw [if_neg cr, b1, bsome, g2.resolve_left cr, bsome, z1]
        · rw [g3]
          exact bsome.trans z1
      · obtain ⟨nu', g3⟩ := b9 asked kinds num
        have go := rd_all h r j' (L + 1) nA (it + 1) fuel fuel2 asked (upd kinds L kd) nu' (upd X_d 0 kd) b2 (by omega) (by omega) (by omega) (by omega) (by omega) (by omega)
        have e1 : ((p_X5_readItem X_c X_d (nI len) (nI j)).bind fun (r4, g5) => if r4 < 0 then (some (nI j, g5)) else ((p_X5_letterAt X_c (nI len) (nI j)).bind fun r8 => (p_X5_isAllowed g5 r8 (nI L)).bind fun r10 => if r10 = 0 then (some (nI j, g5)) else ((p_X5_letterAt X_c (nI len) (nI j)).bind fun r13 => if r13 = 118 then (q_X5_firstFault_6 X_c (nI len) fuel (nI it + 1) r4 (nI L + 1) g5) else (q_X5_firstFault_6 X_c (nI len) fuel (nI it + 1) r4 (nI L) g5)))) = q_X5_firstFault_6 X_c (nI len) fuel (nI (it + 1)) (nI j') (nI (L + 1)) (upd X_d 0 kd) := by
          rw [b7]
          refine bsome.trans ?_
          show (if nI j' < 0 then _ else (p_X5_letterAt X_c (nI len) (nI j)).bind _) = _
          rw [if_neg (show ¬ nI j' < 0 from fun q => by have := tlt.mp q; rw [tnI (by omega), tlit0] at this; omega), b6, bsome, b8, bsome, z0, bsome, if_pos rfl, nI1, nI1]
        have e2 : ((p_X7_item (nI len) text (nI L) (nI nA) asked kinds (nI j) num).bind fun (r3, g4, g5, g6, g7, g8, g9) => if r3 = 0 then (some (nI j, g4, g5, g6, g7, g8, g9)) else (q_X7_readAll_9 (nI len) text fuel2 g4 g5 g6 g7 g8 g9)) = q_X7_readAll_9 (nI len) text fuel2 (nI (L + 1)) (nI nA) asked (upd kinds L kd) (nI j') nu' := by
          rw [g3]
          exact bsome.trans z0
        rw [e1, e2]
        rcases go with ⟨p, X', L', A', as', ki', sp', nu'', q1, q2, q3⟩ | ⟨X', N, nAf, as', ki', sp', nu'', q1, q2, q3, q4, q5, q6, q7⟩
        · exact Or.inl ⟨p, X', L', A', as', ki', sp', nu'', q1, q2, q3⟩
        · have hk : ki' L = kd := by rw [q5 L (by omega), updS]
          exact Or.inr ⟨X', N, nAf, as', ki', sp', nu'', q1, q2, q3, q4, fun i hi => by rw [q5 i (by omega), updN (by omega)], q6, Or.inr (Or.inl ⟨j', b1, b2, b5, by rw [hk]; exact b3, by rw [hk]; exact b4, by rw [hk]; exact ⟨b6, b7, b8⟩, q7⟩)⟩
      · obtain ⟨nu', g3⟩ := b9 asked kinds num
        obtain ⟨cc, v0, v1, v2, d1, d2, d3, d4⟩ := id b8
        have go := rd_all h r j' L (nA + 1) (it + 1) fuel fuel2 (upd (upd (upd asked (4 * nA) (nI uu)) (4 * nA + 1) kk) (4 * nA + 2) (nI vv)) kinds nu' (up3 X_d v0 v1 v2) b2 (by omega) (by omega) (by omega) (by omega) (by omega) (by omega)
        have n118 : ¬ cc = 118 := by rcases d1 with ⟨rfl, -⟩ | ⟨rfl, -⟩ <;> decide
        have e1 : ((p_X5_readItem X_c X_d (nI len) (nI j)).bind fun (r4, g5) => if r4 < 0 then (some (nI j, g5)) else ((p_X5_letterAt X_c (nI len) (nI j)).bind fun r8 => (p_X5_isAllowed g5 r8 (nI L)).bind fun r10 => if r10 = 0 then (some (nI j, g5)) else ((p_X5_letterAt X_c (nI len) (nI j)).bind fun r13 => if r13 = 118 then (q_X5_firstFault_6 X_c (nI len) fuel (nI it + 1) r4 (nI L + 1) g5) else (q_X5_firstFault_6 X_c (nI len) fuel (nI it + 1) r4 (nI L) g5)))) = q_X5_firstFault_6 X_c (nI len) fuel (nI (it + 1)) (nI j') (nI L) (up3 X_d v0 v1 v2) := by
          rw [d3]
          refine bsome.trans ?_
          show (if nI j' < 0 then _ else (p_X5_letterAt X_c (nI len) (nI j)).bind _) = _
          rw [if_neg (show ¬ nI j' < 0 from fun q => by have := tlt.mp q; rw [tnI (by omega), tlit0] at this; omega), d2, bsome, d4, bsome, z0, bsome, if_neg n118, nI1]
        have e2 : ((p_X7_item (nI len) text (nI L) (nI nA) asked kinds (nI j) num).bind fun (r3, g4, g5, g6, g7, g8, g9) => if r3 = 0 then (some (nI j, g4, g5, g6, g7, g8, g9)) else (q_X7_readAll_9 (nI len) text fuel2 g4 g5 g6 g7 g8 g9)) = q_X7_readAll_9 (nI len) text fuel2 (nI L) (nI (nA + 1)) (upd (upd (upd asked (4 * nA) (nI uu)) (4 * nA + 1) kk) (4 * nA + 2) (nI vv)) kinds (nI j') nu' := by
          rw [g3]
          exact bsome.trans z0
        rw [e1, e2]
        rcases go with ⟨p, X', L', A', as', ki', sp', nu'', q1, q2, q3⟩ | ⟨X', N, nAf, as', ki', sp', nu'', q1, q2, q3, q4, q5, q6, q7⟩
        · exact Or.inl ⟨p, X', L', A', as', ki', sp', nu'', q1, q2, q3⟩
        · have k0 : as' (4 * nA) = nI uu := by rw [q6 _ (by omega), updN (by omega), updN (by omega), updS]
          have k1 : as' (4 * nA + 1) = kk := by rw [q6 _ (by omega), updN (by omega), updS]
          have k2 : as' (4 * nA + 2) = nI vv := by rw [q6 _ (by omega), updS]
          exact Or.inr ⟨X', N, nAf, as', ki', sp', nu'', q1, q2, q3, q4, q5, fun q hq => by rw [q6 q (by omega), updN (by omega), updN (by omega), updN (by omega)], Or.inr (Or.inr ⟨uu, vv, j', b1, b2, b3, b4, b5, k0, k2, by rw [k1]; exact b6, by rw [k1]; exact b7, by rw [k1]; exact b8, q7⟩)⟩
/-- fault -/
theorem e_fault (h : TXr len X_c text) (X_d asked kinds num : Nat → Int32) (rl ra sp : Int32) : ∃ r X_d' rl' ra' as' ki' sp' nu', p_X6_fault X_c X_d (nI len) = some (r, X_d') ∧ p_X7_fault (nI len) text rl ra asked kinds sp num = some (r, rl', ra', as', ki', sp', nu') := by
  have hlen := h.1
  have go := rd_all h 201 0 0 0 0 FU FU asked kinds num X_d (by omega) (by omega) (by omega) (by omega) (by omega) (by unfold FU; omega) (by unfold FU; omega)
  rw [nI_0] at go
  unfold p_X6_fault p_X7_fault p_X5_firstFault p_X7_readAll p_X7_readNone
  rcases go with ⟨p, X', L', A', as', ki', sp', nu'', q1, q2, q3⟩ | ⟨X', N, nAf, as', ki', sp', nu'', q1, q2, -⟩
  · refine ⟨nI p, X', L', A', as', ki', sp', nu'', ?_, ?_⟩
    · rw [q1]; rfl
    · exact (congrArg (fun o => Option.bind o _) (bsome.trans q3)).trans rfl
  · refine ⟨-4, X', nI N, nI nAf, as', ki', sp', nu'', ?_, ?_⟩
    · rw [q1]; rfl
    · exact (congrArg (fun o => Option.bind o _) (bsome.trans q2)).trans rfl
end
