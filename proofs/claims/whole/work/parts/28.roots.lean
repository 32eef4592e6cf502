/-! roots, loose -/
theorem negsub {a b : Int32} (h1 : -1000 ≤ a.toInt) (h2 : a.toInt ≤ 1000) (h3 : -1000 ≤ b.toInt) (h4 : b.toInt ≤ 1000) : -(a - b) = b - a := by
  have s1 : (a - b).toInt = a.toInt - b.toInt := tsub (by omega) (by omega)
  have s2 : (b - a).toInt = b.toInt - a.toInt := tsub (by omega) (by omega)
  exact teq.mpr (by rw [tneg (by omega), s1, s2]; omega)
section
variable {n m : Nat} {k f t w row : Nat → Int32} {G : Nat → Nat → Int32}
theorem rootC (hS : SM n m k f t w row) {R : Nat → Int32} (hG : GM n G R) {u : Nat} (hu : u < n) (hf : p_X4_isFloating k (nI u) = some 1) {r : Nat} (hr : r < n) : (p_X6_isRoot k G (nI r) (nI u) = some 0 ∧ p_X7_isRoot row R (nI r) (nI u) = some 0) ∨ (p_X6_isRoot k G (nI r) (nI u) = some 1 ∧ p_X7_isRoot row R (nI r) (nI u) = some 1 ∧ r ≠ u ∧ G r u = R (10 * r + u) ∧ -100 ≤ (R (10 * r + u)).toInt ∧ (R (10 * r + u)).toInt ≤ 100) := by
  have hn := hS.n10
  obtain ⟨b, hb, q1, q2⟩ := floatC hS hr
  unfold p_X6_isRoot p_X7_isRoot
  by_cases hru : r = u
  · subst hru
    rw [q1] at hf
    have hb1 : b = 1 := Option.some.inj hf
    subst hb1
    rw [if_pos rfl, q2]
    exact Or.inl ⟨rfl, rfl⟩
  · rw [if_neg (fun q => hru ((nI_inj (by omega) (by omega)).mp q)), q1, q2]
    rcases hb with rfl | rfl
    · rcases leadsC hn hG hr hu with ⟨h1, h2, h3, h4⟩ | ⟨h1, h2, h3, h4, h5, h6⟩
      · refine Or.inl ⟨?_, ?_⟩
        · rw [bsome, z1, h2, bsome, z1]
        · rw [bsome, z1, h3, bsome, h4, bsome, z1]
      · refine Or.inr ⟨?_, ?_, hru, h1, h2, h3⟩
        · rw [bsome, z1, h4, bsome, z0]
        · rw [bsome, z1, h5, bsome, h6, bsome, z0]
    · exact Or.inl ⟨rfl, rfl⟩
/-- the rows of roots below r -/
def GRr (n u : Nat) (row R : Nat → Int32) (r c : Nat) (v : Nat → Nat) (Q_v Q_m : Nat → Int32) : Prop := c ≤ r ∧ (∀ i, i < c → v i < r ∧ p_X7_isRoot row R (nI (v i)) (nI u) = some 1 ∧ Q_v i = nI (v i) ∧ Q_m i = R (10 * v i + u) ∧ -100 ≤ (R (10 * v i + u)).toInt ∧ (R (10 * v i + u)).toInt ≤ 100) ∧ (∀ i j, i < j → j < c → v i < v j) ∧ ∀ x, x < r → p_X7_isRoot row R (nI x) (nI u) = some 1 → ∃ i, i < c ∧ v i = x
theorem gather_loop (hS : SM n m k f t w row) {R : Nat → Int32} (hG : GM n G R) {u : Nat} (hu : u < n) (hf : p_X4_isFloating k (nI u) = some 1) : ∀ (q r fuel c : Nat) (v : Nat → Nat) (Q_v Q_m : Nat → Int32), r + q = n → q < fuel → GRr n u row R r c v Q_v Q_m → ∃ c' v' Qv' Qm', q_X6_gatherRoots_10 k (nI n) G (nI u) fuel (nI r) Q_v Q_m (nI c) = some (Qv', Qm', nI c') ∧ GRr n u row R n c' v' Qv' Qm'
  | q, r, 0, c, v, Qv, Qm, _, hf9, _ => absurd hf9 (Nat.not_lt_zero _)
  | 0, r, fuel + 1, c, v, Qv, Qm, hr, _, h => by
    have hn := hS.n10
    obtain rfl : r = n := by omega
    rw [q_X6_gatherRoots_10.eq_2, if_pos (nI_le (a := r) (b := r) (by omega) (by omega))]
    exact ⟨c, v, Qv, Qm, rfl, h⟩
  | q + 1, r, fuel + 1, c, v, Qv, Qm, hr, hf9, h => by
    have hn := hS.n10
    rw [q_X6_gatherRoots_10.eq_2, if_neg (nI_ge (a := r) (b := n) (by omega) (by omega)), nI1]
    obtain ⟨h1, h2, h3, h4⟩ := h
    rcases rootC hS hG hu hf (show r < n by omega) with ⟨p1, p2⟩ | ⟨p1, p2, p3, p4, p5, p6⟩
    · rw [p1, bsome, z1]
      refine gather_loop hS hG hu hf q (r + 1) fuel c v Qv Qm (by omega) (by omega) ⟨by omega, fun i hi => ?_, h3, fun x hx hrt => ?_⟩
      · obtain ⟨g1, g2⟩ := h2 i hi
        exact ⟨by omega, g2⟩
      · by_cases hxr : x = r
        · subst hxr; rw [p2] at hrt; exact absurd (Option.some.inj hrt) (by decide)
        · exact h4 x (by omega) hrt
    · have e1 : ix 10 (nI r) = some r := ix_nI (by omega) (by omega)
      have e2 : rd (G r) 10 (nI u) = some (R (10 * r + u)) := by rw [rd_nI (by omega) (by omega), p4]
      have e3 : p_X3_add Qv Qm (nI c) (nI r) (R (10 * r + u)) = some (upd Qv c (nI r), upd Qm c (R (10 * r + u)), nI (c + 1)) := by
        unfold p_X3_add
        rw [if_neg (show ¬ (10 : Int32) ≤ nI c from nI_ge (a := c) (b := 10) (by omega) (by omega)), wr_nI (by omega) (by omega), bsome, wr_nI (by omega) (by omega), bsome, nI1]
      rw [p1, bsome, z0, e1, bsome, e2, bsome, e3]
      refine gather_loop hS hG hu hf q (r + 1) fuel (c + 1) (va_up v c r) (upd Qv c (nI r)) (upd Qm c (R (10 * r + u))) (by omega) (by omega) ⟨by omega, fun i hi => ?_, fun i j hij hj => ?_, fun x hx hrt => ?_⟩
      · by_cases hic : i = c
        · subst hic
          rw [va_up_self, updS, updS]
          exact ⟨by omega, p2, rfl, rfl, p5, p6⟩
        · rw [va_up_ne _ _ hic, updN hic, updN hic]
          obtain ⟨g1, g2⟩ := h2 i (by omega)
          exact ⟨by omega, g2⟩
      · by_cases hjc : j = c
        · subst hjc
          rw [va_up_self, va_up_ne _ _ (by omega)]
          exact (h2 i (by omega)).1
        · rw [va_up_ne _ _ (by omega), va_up_ne _ _ hjc]
          exact h3 i j hij (by omega)
      · by_cases hxr : x = r
        · exact ⟨c, by omega, by rw [va_up_self, hxr]⟩
        · obtain ⟨i, i1, i2⟩ := h4 x (by omega) hrt
          exact ⟨i, by omega, by rw [va_up_ne _ _ (by omega)]; exact i2⟩
/-- a root's row is covered by another's -/
def Cov (R : Nat → Int32) (u a b : Nat) : Prop := p_X7_isSo R (nI a) (R (10 * a + u) - R (10 * b + u)) (nI b) = some 1 ∧ (b < a ∨ p_X7_isSo R (nI b) (R (10 * b + u) - R (10 * a + u)) (nI a) = some 0)
theorem so01 (hn : n ≤ 10) {R : Nat → Int32} (hG : GM n G R) {a b : Nat} (ha : a < n) (hb : b < n) (x : Int32) : p_X7_isSo R (nI a) x (nI b) = some 0 ∨ p_X7_isSo R (nI a) x (nI b) = some 1 := by
  obtain ⟨r, hr, -, h⟩ := soC hn hG ha hb x
  rcases hr with rfl | rfl
  · exact Or.inl h
  · exact Or.inr h
theorem rcov (hn : n ≤ 10) {R : Nat → Int32} (hG : GM n G R) {u c : Nat} {v : Nat → Nat} {Q_v Q_m : Nat → Int32} (h : GRr n u row R n c v Q_v Q_m) {i j : Nat} (hi : i < c) (hj : j < c) (hij : i ≠ j) : (Cov R u (v i) (v j) ∧ p_X3_isCovered Q_v Q_m G (nI i) (nI j) = some 1) ∨ (¬ Cov R u (v i) (v j) ∧ p_X3_isCovered Q_v Q_m G (nI i) (nI j) = some 0) := by
  obtain ⟨h1, h2, h3, h4⟩ := h
  obtain ⟨a1, a2, a3, a4, a5, a6⟩ := h2 i hi
  obtain ⟨b1, b2, b3, b4, b5, b6⟩ := h2 j hj
  have hord : nI j < nI i ↔ v j < v i := by
    rw [nIlt (by omega) (by omega)]
    constructor
    · intro q; exact h3 j i q hi
    · intro q
      rcases Nat.lt_or_ge j i with z | z
      · exact z
      · have := h3 i j (by omega) hj
        omega
  have e1 : rd Q_v 10 (nI i) = some (nI (v i)) := by rw [rd_nI (by omega) (by omega), a3]
  have e2 : rd Q_v 10 (nI j) = some (nI (v j)) := by rw [rd_nI (by omega) (by omega), b3]
  have e3 : rd Q_m 10 (nI i) = some (R (10 * v i + u)) := by rw [rd_nI (by omega) (by omega), a4]
  have e4 : rd Q_m 10 (nI j) = some (R (10 * v j + u)) := by rw [rd_nI (by omega) (by omega), b4]
  obtain ⟨r1, hr1, p1, p2⟩ := soC hn hG a1 b1 (R (10 * v i + u) - R (10 * v j + u))
  obtain ⟨r2, hr2, p3, p4⟩ := soC hn hG b1 a1 (R (10 * v j + u) - R (10 * v i + u))
  have z9 : ∀ r : Int32, r = 0 ∨ r = 1 → ((bz r).bind fun _ => some r) = some r := fun r hr => by rcases hr with rfl | rfl <;> rfl
  unfold p_X3_isCovered p_X3_isNoMore Cov
  simp only [e1, e2, e3, e4, bsome, p1, p2, p3, p4, z9 r1 hr1, z9 r2 hr2]
  rcases hr1 with rfl | rfl
  · exact Or.inr ⟨fun q => absurd (Option.some.inj q.1) (by decide), by rw [z1]⟩
  · by_cases ho : v j < v i
    · exact Or.inl ⟨⟨rfl, Or.inl ho⟩, by rw [z0, if_pos (hord.mpr ho)]⟩
    · rcases hr2 with rfl | rfl
      · exact Or.inl ⟨⟨rfl, Or.inr rfl⟩, by rw [z0, if_neg (fun q => ho (hord.mp q)), z1]⟩
      · refine Or.inr ⟨fun q => ?_, by rw [z0, if_neg (fun q => ho (hord.mp q)), z0]⟩
        rcases q.2 with q | q
        · exact ho q
        · exact absurd (Option.some.inj q) (by decide)
theorem rshort (hn : n ≤ 10) {R : Nat → Int32} (hG : GM n G R) {u c : Nat} {v : Nat → Nat} {Q_v Q_m : Nat → Int32} (h : GRr n u row R n c v Q_v Q_m) {i : Nat} (hi : i < c) : ∀ (r j fuel : Nat), j + r = c → r < fuel → ((∀ j', j ≤ j' → j' < c → j' ≠ i → ¬ Cov R u (v i) (v j')) ∧ q_X3_isShort_2 Q_v Q_m (nI c) G (nI i) fuel (nI j) = some 1) ∨ ((∃ j', j ≤ j' ∧ j' < c ∧ j' ≠ i ∧ Cov R u (v i) (v j')) ∧ q_X3_isShort_2 Q_v Q_m (nI c) G (nI i) fuel (nI j) = some 0)
  | r, j, 0, _, hf => absurd hf (Nat.not_lt_zero _)
  | 0, j, fuel + 1, hj, _ => by
    have hc := h.1
    rw [q_X3_isShort_2.eq_2, if_pos (nI_le (a := c) (b := j) (by omega) (by omega))]
    exact Or.inl ⟨fun j' h1 h2 => by omega, rfl⟩
  | r + 1, j, fuel + 1, hj, hf => by
    have hc := h.1
    rw [q_X3_isShort_2.eq_2, if_neg (nI_ge (a := j) (b := c) (by omega) (by omega)), nI1]
    have go := rshort hn hG h hi r (j + 1) fuel (by omega) (by omega)
    have up : (∀ j', j + 1 ≤ j' → j' < c → j' ≠ i → ¬ Cov R u (v i) (v j')) → (j = i ∨ ¬ Cov R u (v i) (v j)) → ∀ j', j ≤ j' → j' < c → j' ≠ i → ¬ Cov R u (v i) (v j') := fun g1 g2 j' h1 h2 h3 => by
      by_cases e : j' = j
      · subst e; exact g2.resolve_left h3
      · exact g1 j' (by omega) h2 h3
    by_cases hij : j = i
    · rw [if_pos (by rw [hij])]
      rcases go with ⟨g1, g2⟩ | ⟨⟨j', a1, a2, a3, a4⟩, g2⟩
      · exact Or.inl ⟨up g1 (Or.inl hij), g2⟩
      · exact Or.inr ⟨⟨j', by omega, a2, a3, a4⟩, g2⟩
    · rw [if_neg (fun q => hij ((nI_inj (by omega) (by omega)).mp q))]
      rcases rcov hn hG h hi (show j < c by omega) (fun q => hij q.symm) with ⟨c1, c2⟩ | ⟨c1, c2⟩
      · rw [c2, bsome, z0]
        exact Or.inr ⟨⟨j, by omega, by omega, hij, c1⟩, rfl⟩
      · rw [c2, bsome, z1]
        rcases go with ⟨g1, g2⟩ | ⟨⟨j', a1, a2, a3, a4⟩, g2⟩
        · exact Or.inl ⟨up g1 (Or.inr c1), g2⟩
        · exact Or.inr ⟨⟨j', by omega, a2, a3, a4⟩, g2⟩
theorem rmodel (hS : SM n m k f t w row) {R e : Nat → Int32} (hG : GM n G R) {u : Nat} (hu : u < n) (hf : p_X4_isFloating k (nI u) = some 1) (k29 : Int32 → Int32 → (Nat → Int32) → (Nat → Int32) → Option (Int32 × (Nat → Int32) × (Nat → Int32))) {a : Nat} (ha : a < n) (hrt : p_X7_isRoot row R (nI a) (nI u) = some 1) (s : Int32) : ∀ (r b fuel : Nat) (z : Int32), b + r = n → r < fuel → (z = 0 ∨ z = 1) → ((z = 1 ∧ (∀ b', b ≤ b' → b' < n → b' ≠ a → p_X7_isRoot row R (nI b') (nI u) = some 1 → ¬ Cov R u a b')) ∧ q_X7_roots_48 (nI n) row (nI u) k29 fuel (nI b) z (nI a) s R e = k29 (nI (a + 1)) (s ||| (1 <<< (nI a &&& 31))) R e) ∨ ((z = 0 ∨ (∃ b', b ≤ b' ∧ b' < n ∧ b' ≠ a ∧ p_X7_isRoot row R (nI b') (nI u) = some 1 ∧ Cov R u a b')) ∧ q_X7_roots_48 (nI n) row (nI u) k29 fuel (nI b) z (nI a) s R e = k29 (nI (a + 1)) s R e)
  | r, b, 0, z, _, hf9, _ => absurd hf9 (Nat.not_lt_zero _)
  | 0, b, fuel + 1, z, hb, _, hz => by
    have hn := hS.n10
    rw [q_X7_roots_48.eq_2, if_pos (nI_le (a := n) (b := b) (by omega) (by omega))]
    unfold q_X7_roots_157
    rcases hz with rfl | rfl
    · rw [z1, nI1, Int32.or_zero]; exact Or.inr ⟨Or.inl rfl, rfl⟩
    · rw [z0, nI1]; exact Or.inl ⟨⟨rfl, fun b' h1 h2 => by omega⟩, rfl⟩
  | r + 1, b, fuel + 1, z, hb, hf9, hz => by
    have hn := hS.n10
    have go := fun z hz => rmodel hS (e := e) hG hu hf k29 ha hrt s r (b + 1) fuel z (by omega) (by omega) hz
    rw [q_X7_roots_48.eq_2, if_neg (nI_ge (a := b) (b := n) (by omega) (by omega)), nI1]
    have keep : (b = a ∨ p_X7_isRoot row R (nI b) (nI u) ≠ some 1 ∨ ¬ Cov R u a b) → ((z = 1 ∧ (∀ b', b ≤ b' → b' < n → b' ≠ a → p_X7_isRoot row R (nI b') (nI u) = some 1 → ¬ Cov R u a b')) ∧ q_X7_roots_48 (nI n) row (nI u) k29 fuel (nI (b + 1)) z (nI a) s R e = k29 (nI (a + 1)) (s ||| (1 <<< (nI a &&& 31))) R e) ∨ ((z = 0 ∨ (∃ b', b ≤ b' ∧ b' < n ∧ b' ≠ a ∧ p_X7_isRoot row R (nI b') (nI u) = some 1 ∧ Cov R u a b')) ∧ q_X7_roots_48 (nI n) row (nI u) k29 fuel (nI (b + 1)) z (nI a) s R e = k29 (nI (a + 1)) s R e) := fun hk => by
      rcases go z hz with ⟨⟨g0, g1⟩, g2⟩ | ⟨g1, g2⟩
      · refine Or.inl ⟨⟨g0, fun b' h1 h2 h3 h4 => ?_⟩, g2⟩
        by_cases e9 : b' = b
        · subst e9
          rcases hk with q | q | q
          · exact absurd q h3
          · exact absurd h4 q
          · exact q
        · exact g1 b' (by omega) h2 h3 h4
      · refine Or.inr ⟨?_, g2⟩
        rcases g1 with g1 | ⟨b', a1, a2, a3, a4, a5⟩
        · exact Or.inl g1
        · exact Or.inr ⟨b', by omega, a2, a3, a4, a5⟩
    by_cases hba : b = a
    · rw [if_pos (by rw [hba])]
      exact keep (Or.inl hba)
    · rw [if_neg (fun q => hba ((nI_inj (by omega) (by omega)).mp q))]
      rcases rootC hS hG hu hf (show b < n by omega) with ⟨-, p2⟩ | ⟨-, p2, -, -, p5, p6⟩
      · rw [p2, bsome, z1]
        exact keep (Or.inr (Or.inl (by rw [p2]; decide)))
      · have ra := (rootC hS hG hu hf ha).resolve_left (fun q => by rw [q.2] at hrt; exact absurd (Option.some.inj hrt) (by decide))
        obtain ⟨-, -, -, -, a5, a6⟩ := ra
        have e1 : rd R 100 (10 * nI a + nI u) = some (R (10 * a + u)) := by rw [ten, rd_nI (by omega) (by omega)]
        have e2 : rd R 100 (10 * nI b + nI u) = some (R (10 * b + u)) := by rw [ten, rd_nI (by omega) (by omega)]
        rw [p2, bsome, z0, hrt, bsome, z0, e1, bsome, e2, bsome]
        rcases hz with rfl | rfl
        · rw [z1]
          rcases go 0 (Or.inl rfl) with ⟨⟨g0, -⟩, -⟩ | ⟨-, g2⟩
          · exact absurd g0 (by decide)
          · exact Or.inr ⟨Or.inl rfl, g2⟩
        · rw [z0, negsub (by omega) (by omega) (by omega) (by omega)]
          have bad : Cov R u a b → q_X7_roots_48 (nI n) row (nI u) k29 fuel (nI (b + 1)) 0 (nI a) s R e = k29 (nI (a + 1)) s R e := fun _ => by
            rcases go 0 (Or.inl rfl) with ⟨⟨g0, -⟩, -⟩ | ⟨-, g2⟩
            · exact absurd g0 (by decide)
            · exact g2
          rcases so01 hn hG ha (show b < n by omega) (R (10 * a + u) - R (10 * b + u)) with s1 | s1
          · rw [s1, bsome, z1]
            exact keep (Or.inr (Or.inr (fun q => by rw [q.1] at s1; exact absurd (Option.some.inj s1) (by decide))))
          · rw [s1, bsome, z0]
            by_cases hlt : b < a
            · rw [if_pos (nI_lt hlt (by omega))]
              exact Or.inr ⟨Or.inr ⟨b, by omega, by omega, hba, p2, s1, Or.inl hlt⟩, bad ⟨s1, Or.inl hlt⟩⟩
            · rw [if_neg (fun q => hlt ((nIlt (by omega) (by omega)).mp q))]
              rcases so01 hn hG (show b < n by omega) ha (R (10 * b + u) - R (10 * a + u)) with s2 | s2
              · rw [s2, bsome, z1]
                exact Or.inr ⟨Or.inr ⟨b, by omega, by omega, hba, p2, s1, Or.inr s2⟩, bad ⟨s1, Or.inr s2⟩⟩
              · rw [s2, bsome, z0]
                exact keep (Or.inr (Or.inr (fun q => by
                  rcases q.2 with q | q
                  · exact hlt q
                  · rw [q] at s2; exact absurd (Option.some.inj s2) (by decide))))
theorem roots_out (hS : SM n m k f t w row) {R e : Nat → Int32} (hG : GM n G R) {u : Nat} (hu : u < n) (hf : p_X4_isFloating k (nI u) = some 1) {c : Nat} {v : Nat → Nat} {Q_v Q_m : Nat → Int32} (h : GRr n u row R n c v Q_v Q_m) : ∀ (r a i fuel fuelc : Nat) (s : Int32), a + r = n → r < fuel → c < i + fuelc → i ≤ c → (∀ i', i' < c → (i' < i ↔ v i' < a)) → ∃ z, q_X6_roots_33 k (nI n) G (nI u) fuelc (nI i) s Q_v Q_m (nI c) = some (z, Q_v, Q_m, nI c) ∧ q_X7_roots_29 (nI n) row (nI u) fuel (nI a) s R e = some (z, R, e)
  | r, a, i, 0, fuelc, s, _, hf9, _, _, _ => absurd hf9 (Nat.not_lt_zero _)
  | 0, a, i, fuel + 1, fuelc, s, ha, _, hfc, hi, hv => by
    have hn := hS.n10
    have hc := h.1
    obtain ⟨fuelc, rfl⟩ : ∃ q, fuelc = q + 1 := ⟨fuelc - 1, by omega⟩
    have hic : i = c := by
      rcases Nat.lt_or_ge i c with q | q
      · have := (hv i q).mpr (by have := (h.2.1 i q).1; omega)
        omega
      · omega
    rw [q_X6_roots_33.eq_2, q_X7_roots_29.eq_2, if_pos (nI_le (a := c) (b := i) (by omega) (by omega)), if_pos (nI_le (a := n) (b := a) (by omega) (by omega))]
    exact ⟨s, rfl, rfl⟩
  | r + 1, a, i, fuel + 1, fuelc, s, ha, hf9, hfc, hi, hv => by
    have hn := hS.n10
    have hc := h.1
    rw [q_X7_roots_29.eq_2, if_neg (nI_ge (a := a) (b := n) (by omega) (by omega))]
    rcases rootC hS hG hu hf (show a < n by omega) with ⟨-, p2⟩ | ⟨-, p2, -⟩
    · -- no root: the flag is 0 all along
      have hz : ∀ (q b fl : Nat), b + q = n → q < fl → q_X7_roots_48 (nI n) row (nI u) (q_X7_roots_29 (nI n) row (nI u) fuel) fl (nI b) 0 (nI a) s R e = q_X7_roots_29 (nI n) row (nI u) fuel (nI (a + 1)) s R e := by
        intro q
        induction q with
        | zero =>
          intro b fl hb hfl
          obtain ⟨fl, rfl⟩ : ∃ x, fl = x + 1 := ⟨fl - 1, by omega⟩
          rw [q_X7_roots_48.eq_2, if_pos (nI_le (a := n) (b := b) (by omega) (by omega))]
          unfold q_X7_roots_157
          rw [z1, nI1, Int32.or_zero]
        | succ q ih =>
          intro b fl hb hfl
          obtain ⟨fl, rfl⟩ : ∃ x, fl = x + 1 := ⟨fl - 1, by omega⟩
          rw [q_X7_roots_48.eq_2, if_neg (nI_ge (a := b) (b := n) (by omega) (by omega)), nI1, p2]
          have g := ih (b + 1) fl (by omega) (by omega)
          by_cases hba : nI b = nI a
          · rw [if_pos hba]; exact g
          · rw [if_neg hba]
            rcases rootC hS hG hu hf (show b < n by omega) with ⟨-, p3⟩ | ⟨-, p3, -⟩
            · rw [p3, bsome, z1]; exact g
            · rw [p3, bsome, z0, bsome, z1]; exact g
      rw [p2, bsome]
      have g := hz n 0 FU (by omega) (by unfold FU; omega)
      rw [nI_0] at g
      rw [g]
      refine roots_out hS hG hu hf h r (a + 1) i fuel fuelc s (by omega) (by omega) hfc hi (fun i' hi' => ?_)
      have hne : v i' ≠ a := fun q => by
        have := (h.2.1 i' hi').2.1
        rw [q, p2] at this
        exact absurd (Option.some.inj this) (by decide)
      have := hv i' hi'
      omega
    · obtain ⟨i', hi', hvi⟩ := h.2.2.2 a (by omega) p2
      have hii : i' = i := by
        have h1 := hv i' hi'
        rcases Nat.lt_trichotomy i' i with q | q | q
        · have := h1.mp q; omega
        · exact q
        · have h2 := hv i (by omega)
          have h3 := h.2.2.1 i i' q hi'
          have := h2.mpr (by omega)
          omega
      subst hii
      obtain ⟨fuelc, rfl⟩ : ∃ q, fuelc = q + 1 := ⟨fuelc - 1, by omega⟩
      have next : ∀ i9, i9 < c → (i9 < i' + 1 ↔ v i9 < a + 1) := fun i9 h9 => by
        have h1 := hv i9 h9
        rcases Nat.lt_trichotomy i9 i' with q | q | q
        · have := h1.mp q; omega
        · subst q; omega
        · have := h.2.2.1 i' i9 q h9; omega
      have same : (∀ j', j' < c → j' ≠ i' → ¬ Cov R u a (v j')) ↔ (∀ b', b' < n → b' ≠ a → p_X7_isRoot row R (nI b') (nI u) = some 1 → ¬ Cov R u a b') := by
        constructor
        · intro g b' h1 h2 h3
          obtain ⟨j, j1, j2⟩ := h.2.2.2 b' h1 h3
          subst j2
          exact g j j1 (fun q => h2 (by rw [q, hvi]))
        · intro g j' h1 h2
          obtain ⟨g1, g2, -⟩ := h.2.1 j' h1
          refine g (v j') g1 (fun q => h2 ?_) g2
          rcases Nat.lt_trichotomy j' i' with q9 | q9 | q9
          · have := h.2.2.1 j' i' q9 hi'; omega
          · exact q9
          · have := h.2.2.1 i' j' q9 h1; omega
      rw [p2, bsome]
      have R1 := rmodel hS (e := e) hG hu hf (q_X7_roots_29 (nI n) row (nI u) fuel) (show a < n by omega) p2 s n 0 FU 1 (by omega) (by unfold FU; omega) (Or.inr rfl)
      have R2 := rshort hn hG h hi' c 0 FU (by omega) (by unfold FU; omega)
      rw [nI_0] at R1 R2
      have ev : rd Q_v 10 (nI i') = some (nI a) := by rw [rd_nI (by omega) (by omega), (h.2.1 i' hi').2.2.1, hvi]
      rw [q_X6_roots_33.eq_2, if_neg (nI_ge (a := i') (b := c) (by omega) (by omega))]
      unfold p_X3_isShort
      rcases R2 with ⟨g1, g2⟩ | ⟨⟨j', b1, b2, b3, b4⟩, g2⟩
      · rw [hvi] at g1
        have g3 := same.mp (fun j' => g1 j' (Nat.zero_le _))
        rcases R1 with ⟨-, g4⟩ | ⟨g4, -⟩
        · rw [g2, g4, bsome, z0, ev, bsome, nI1]
          exact roots_out hS hG hu hf h r (a + 1) (i' + 1) fuel fuelc _ (by omega) (by omega) (by omega) (by omega) next
        · rcases g4 with g4 | ⟨b', a1, a2, a3, a4, a5⟩
          · exact absurd g4 (by decide)
          · exact absurd a5 (g3 b' a2 a3 a4)
      · rw [hvi] at b4
        rcases R1 with ⟨⟨-, g4⟩, -⟩ | ⟨-, g4⟩
        · exact absurd b4 (same.mpr (fun b' => g4 b' (Nat.zero_le _)) j' b2 b3)
        · rw [g2, g4, bsome, z1, nI1]
          exact roots_out hS hG hu hf h r (a + 1) (i' + 1) fuel fuelc s (by omega) (by omega) (by omega) (by omega) next
theorem e_roots (hS : SM n m k f t w row) (hL : LG n m f t w G) (Q_v Q_m : Nat → Int32) (Q_s : Int32) (R0 e0 : Nat → Int32) (a : Int32) : ∃ r v' m' s' R e, p_X6_roots k (nI n) Q_v Q_m Q_s G a = some (r, v', m', s') ∧ p_X7_roots (nI n) row R0 e0 a = some (r, R, e) := by
  have hn := hS.n10
  unfold p_X6_roots p_X7_roots
  rcases lvC hn a with ⟨h1, h2⟩ | ⟨u, hu, rfl, h1, h2⟩
  · rw [h1, h2]; exact ⟨-1, Q_v, Q_m, Q_s, R0, e0, rfl, rfl⟩
  rw [h1, h2, bsome, bsome, z0, z0]
  obtain ⟨b, hb, f1, f2⟩ := floatC hS hu
  rcases hb with rfl | rfl
  · rw [f1, f2]; exact ⟨-2, Q_v, Q_m, Q_s, R0, e0, rfl, rfl⟩
  obtain ⟨R, e, g1, g2, -⟩ := hS.find hL R0 e0
  obtain ⟨c, v, Qv, Qm, q1, q2⟩ := gather_loop hS g2 hu f1 n 0 FU 0 (fun _ => 0) Q_v Q_m (by omega) (by unfold FU; omega) ⟨by omega, fun i hi => absurd hi (Nat.not_lt_zero i), fun i j _ hj => absurd hj (Nat.not_lt_zero j), fun x hx => absurd hx (Nat.not_lt_zero x)⟩
  obtain ⟨z, p1, p2⟩ := roots_out hS (e := e) g2 hu f1 q2 n 0 0 FU FU 0 (by omega) (by unfold FU; omega) (by have := q2.1; unfold FU; omega) (Nat.zero_le _) (fun i' _ => by omega)
  rw [nI_0] at p1 p2 q1
  refine ⟨z, Qv, Qm, nI c, R, e, ?_, ?_⟩
  · rw [f1, bsome, z0]
    unfold p_X6_gatherRoots
    rw [q1]
    exact bsome.trans p1
  · rw [f2, bsome, z0, g1]
    exact bsome.trans p2
end
