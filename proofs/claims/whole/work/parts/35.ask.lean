/-! ask: refused or taken alike -/
theorem new_walk {E E' : Nat → Nat → Int → Prop} {u v : Nat} {wt : Int} (hE : ∀ x y d, E' x y d → E x y d ∨ (x = u ∧ y = v ∧ d = wt)) (hvu : ∀ k d, Wk E k v u d → d + wt ≤ 0) : ∀ (k x y : Nat) (d : Int), Wk E' k x y d → (∃ k' d', d ≤ d' ∧ Wk E k' x y d') ∨ ∃ k1 k2 d1 d2, Wk E k1 x u d1 ∧ Wk E k2 v y d2 ∧ d ≤ d1 + wt + d2
  | 0, x, y, d, h => Or.inl ⟨0, d, Int.le_refl _, h⟩
  | k + 1, x, y, d, h => by
    obtain ⟨z, d1, h1, h2⟩ := h
    rcases hE _ _ _ h1 with h3 | ⟨rfl, rfl, rfl⟩
    · rcases new_walk hE hvu k z y _ h2 with ⟨k', d', g1, g2⟩ | ⟨k1, k2, e1, e2, g1, g2, g3⟩
      · exact Or.inl ⟨k' + 1, d1 + d', by omega, z, d1, h3, by rw [show d1 + d' - d1 = d' by omega]; exact g2⟩
      · exact Or.inr ⟨k1 + 1, k2, d1 + e1, e2, ⟨z, d1, h3, by rw [show d1 + e1 - d1 = e1 by omega]; exact g1⟩, g2, by omega⟩
    · rcases new_walk hE hvu k z y _ h2 with ⟨k', d', g1, g2⟩ | ⟨k1, k2, e1, e2, g1, g2, g3⟩
      · exact Or.inr ⟨0, k', 0, d', ⟨rfl, rfl⟩, g2, by omega⟩
      · have := hvu _ _ g1
        exact Or.inr ⟨0, k2, 0, e2, ⟨rfl, rfl⟩, g2, by omega⟩
theorem NPC.new {E E' : Nat → Nat → Int → Prop} {u v : Nat} {wt : Int} (hN : NPC E) (hE : ∀ x y d, E' x y d → E x y d ∨ (x = u ∧ y = v ∧ d = wt)) (hvu : ∀ k d, Wk E k v u d → d + wt ≤ 0) : NPC E' := by
  intro k x d h
  rcases new_walk hE hvu k x x d h with ⟨k', d', g1, g2⟩ | ⟨k1, k2, e1, e2, g1, g2, g3⟩
  · have := hN _ _ _ g2
    omega
  · have := hvu _ _ (g2.cat g1)
    omega
section
variable {n m : Nat} {Nk Nf Nt Nw now : Nat → Int32} {G : Nat → Nat → Int32}
theorem wtC (hS : SM n m Nk Nf Nt Nw now) {v : Nat} (hv : v < n) {k : Int32} (h1 : -9 ≤ k.toInt) (h2 : k.toInt ≤ 9) : ∃ wt, p_X4_weightTowards Nk (nI v) k = some wt ∧ (∀ now' : Nat → Int32, now' v = now v → p_X7_weightTo now' k (nI v) = some wt) ∧ -10 ≤ wt.toInt ∧ wt.toInt ≤ 10 := by
  have hn := hS.n10
  have ek := (hS.2.1 v hv).1
  have a1 : (k + 1).toInt = k.toInt + 1 := by rw [tadd (by rw [tlit1]; omega) (by rw [tlit1]; omega), tlit1]
  have a2 : (k - 1).toInt = k.toInt - 1 := by rw [tsub (by rw [tlit1]; omega) (by rw [tlit1]; omega), tlit1]
  unfold p_X4_weightTowards p_X7_weightTo
  rw [rd_nI (by omega) (by omega), bsome, ek]
  by_cases c2 : now v = 2
  · refine ⟨k + 1, by rw [if_pos c2], fun now' hq => ?_, by omega, by omega⟩
    rw [rd_nI (by omega) (by omega), bsome, bsome, hq, if_pos c2]
  · by_cases c3 : now v = 3
    · refine ⟨k - 1, by rw [if_neg c2, if_pos c3], fun now' hq => ?_, by omega, by omega⟩
      rw [rd_nI (by omega) (by omega), bsome, bsome, hq, if_neg c2, if_pos c3]
    · refine ⟨k, by rw [if_neg c2, if_neg c3], fun now' hq => ?_, by omega, by omega⟩
      rw [rd_nI (by omega) (by omega), bsome, bsome, hq, if_neg c2, if_neg c3]
/-- refused: here and there, with the same round; or else it may be taken -/
theorem e_may (hS : SM n m Nk Nf Nt Nw now) (hL : LG n m Nf Nt Nw G) {u v : Nat} (hu : u < n) (hv : v < n) {k wt : Int32} (hw : p_X7_weightTo now k (nI v) = some wt) (hw1 : -10 ≤ wt.toInt) (hw2 : wt.toInt ≤ 10) (O On rnd bb0 R0 e0 : Nat → Int32) (Os rm ro rf : Int32) :
    (∃ (c : Nat) (O' On' rnd' bb' R ed : Nat → Int32) (over : Int32), c ≤ 10 ∧ p_X1_leads G (nI v) (nI u) = some 1 ∧ ¬ (G v u + wt ≤ 0) ∧ p_X2_trace O On Os Nf Nt Nw (nI n) (nI m) G (nI v) (nI u) = some (O', On', nI c) ∧ p_X7_mayTake (nI n) now rf rm ro rnd R0 e0 bb0 (nI u) k (nI v) = some (0, rf + 1, nI c, over, rnd', R, ed, bb') ∧ RNr c O' rnd' (G v u + wt) over) ∨
    (∃ (R ed : Nat → Int32), (p_X1_leads G (nI v) (nI u) = some 0 ∨ (p_X1_leads G (nI v) (nI u) = some 1 ∧ G v u + wt ≤ 0)) ∧ p_X7_mayTake (nI n) now rf rm ro rnd R0 e0 bb0 (nI u) k (nI v) = some (1, rf, rm, ro, rnd, R, ed, bb0) ∧ ∀ j d, Wk (Ed Nf Nt Nw m 0) j v u d → d + wt.toInt ≤ 0) := by
  have hn := hS.n10
  obtain ⟨R, ed, g1, g2, g3, g4⟩ := hS.find hL R0 e0
  have hg := hS.2.2.2.1
  have hN := hS.2.2.2.2
  unfold p_X7_mayTake p_X7_clashes
  rw [hw, bsome, g1]
  rcases leadsC hn g2 hv hu with ⟨q1, q2, q3, q4⟩ | ⟨q1, b1, b2, q2, q3, q4⟩
  · refine Or.inr ⟨R, ed, Or.inl q2, ?_, fun j d hj => ?_⟩
    · refine bsome.trans ?_
      show (rd R 100 _).bind _ = _
      rw [q3, bsome, q4, bsome, z1, bsome, z1]
    · rcases hL v hv u (by omega) with ⟨d', h1, h2⟩ | ⟨h1, h2⟩
      · have := h1.bd (hg.inV 0) hN (hg.ten 0) hn hv
        rw [q1, tNW] at h2
        omega
      · exact (h1 _ _ hj).elim
  · have hGv : ∃ r, Mx (Ed Nf Nt Nw m 0) v u r ∧ (G v u).toInt = r := by
      rcases hL v hv u (by omega) with h | ⟨-, h2⟩
      · exact h
      · rw [h2] at q1
        rw [← q1, tNW] at b1
        omega
    obtain ⟨r, hm, hr⟩ := hGv
    have es : (G v u + wt).toInt = r + wt.toInt := by rw [tadd (by rw [q1]; omega) (by rw [q1]; omega), hr]
    by_cases c : G v u + wt ≤ 0
    · refine Or.inr ⟨R, ed, Or.inr ⟨q2, c⟩, ?_, fun j d hj => ?_⟩
      · refine bsome.trans ?_
        show (rd R 100 _).bind _ = _
        rw [q3, bsome, q4, bsome, z0, ← q1, if_pos c, bsome, z1]
      · have a1 := hm.2 _ _ hj
        have a2 := tle.mp c
        rw [es, tlit0] at a2
        omega
    · obtain ⟨cc, O', On', rnd', bb', t1, t2, t3, t4⟩ := e_trace hg hN hL g4 g3 hu hv hm O On rnd bb0 Os rm ro wt
      refine Or.inl ⟨cc, O', On', rnd', bb', R, ed, R (10 * v + u) + wt, t3, q2, c, t1, ?_, t3, t4, fun _ => by rw [q1]⟩
      refine bsome.trans ?_
      show (rd R 100 _).bind _ = _
      rw [q3, bsome, q4, bsome, z0, ← q1, if_neg c, bsome, z0, t2]
      refine bsome.trans ?_
      rw [q1]
/-- taken -/
theorem e_take (hS : SM n m Nk Nf Nt Nw now) {u v : Nat} (hu : u < n) (hv : v < n) (hm : m < 16) {k wt : Int32} (hw : ∀ now' : Nat → Int32, now' v = now v → p_X7_weightTo now' k (nI v) = some wt) (hw1 : -10 ≤ wt.toInt) (hw2 : wt.toInt ≤ 10) (hvu : ∀ j d, Wk (Ed Nf Nt Nw m 0) j v u d → d + wt.toInt ≤ 0) (l : Int32) :
    ∃ f' t' w' now' G', p_X4_take Nf Nt Nw (nI m) (nI u) wt (nI v) = some (f', t', w', nI (m + 1)) ∧ p_X7_takeBound now (nI u) k (nI v) = some now' ∧ SM n (m + 1) Nk f' t' w' now' ∧ p_X1_measure f' t' w' (nI n) (nI (m + 1)) G l = some (G', nI n) ∧ LG n (m + 1) f' t' w' G' := by
  have hn := hS.n10
  have hg := hS.2.2.2.1
  have hN := hS.2.2.2.2
  have old : ∀ b, b < m → upd Nf m (nI u) b = Nf b ∧ upd Nt m (nI v) b = Nt b ∧ upd Nw m wt b = Nw b := fun b hb => ⟨updN (by omega), updN (by omega), updN (by omega)⟩
  have hg' : gOK n (m + 1) (upd Nf m (nI u)) (upd Nt m (nI v)) (upd Nw m wt) := ⟨hn, by omega, fun b hb => by
    by_cases c : b = m
    · subst c
      rw [updS, updS, updS, tnI (by omega), tnI (by omega)]
      omega
    · obtain ⟨a1, a2, a3⟩ := old b (by omega)
      rw [a1, a2, a3]
      exact hg.2.2 b (by omega)⟩
  have hN' : NPC (Ed (upd Nf m (nI u)) (upd Nt m (nI v)) (upd Nw m wt) (m + 1) 0) := by
    refine hN.new (u := u) (v := v) (wt := wt.toInt) (fun x y d ⟨b, b1, b2, b3, b4, b5⟩ => ?_) hvu
    by_cases c : b = m
    · subst c
      rw [updS, clampI (by omega)] at b3 b4
      rw [updS] at b5
      exact Or.inr ⟨b3.symm, b4.symm, b5.symm⟩
    · obtain ⟨a1, a2, a3⟩ := old b (by omega)
      rw [a1] at b3
      rw [a2] at b4
      rw [a3] at b5
      exact Or.inl ⟨b, by omega, b2, b3, b4, b5⟩
  obtain ⟨G', m1, m2⟩ := ms_ok hg' hN' G l
  refine ⟨upd Nf m (nI u), upd Nt m (nI v), upd Nw m wt, upd (upd (upd (upd now (11 + m) (nI u)) (27 + m) (nI v)) (43 + m) wt) 10 (nI (m + 1)), G', ?_, ?_, ⟨updS _ _ _, fun i hi => ?_, fun i hi => ?_, hg', hN'⟩, m1, m2⟩
  · unfold p_X4_take
    rw [if_neg (show ¬ (16 : Int32) ≤ nI m from nI_ge (a := m) (b := 16) (by omega) (by omega)), wr_nI (by omega) (by omega), bsome, wr_nI (by omega) (by omega), bsome, wr_nI (by omega) (by omega), bsome, nI1]
  · unfold p_X7_takeBound
    have e0 : rd now 59 10 = some (nI m) := by rw [show rd now 59 10 = some (now 10) from rd_nI (k := 10) (by omega) (by omega), hS.1]
    rw [e0, bsome, pl11, wr_nI (by omega) (by omega), bsome, pl27, wr_nI (by omega) (by omega), bsome, hw _ (by rw [updN (by omega), updN (by omega)]), bsome, pl43, wr_nI (by omega) (by omega), bsome]
    rw [show ∀ g : Nat → Int32, rd g 59 10 = some (g 10) from fun g => rd_nI (k := 10) (by omega) (by omega), bsome, updN (by omega), updN (by omega), updN (by omega), hS.1, nI1]
    rw [show ∀ (g : Nat → Int32) x, wr g 59 10 x = some (upd g 10 x) from fun g x => wr_nI (k := 10) (by omega) (by omega), bsome]
  · rw [updN (by omega), updN (by omega), updN (by omega), updN (by omega)]
    exact hS.2.1 i hi
  · rw [updN (show 11 + i ≠ 10 by omega), updN (show 27 + i ≠ 10 by omega), updN (show 43 + i ≠ 10 by omega), updN (show 11 + i ≠ 43 + m by omega), updN (show 11 + i ≠ 27 + m by omega), updN (show 27 + i ≠ 43 + m by omega)]
    by_cases c : i = m
    · subst c
      rw [updS, updS, updS, updS, updS, updS]
      exact ⟨rfl, rfl, rfl⟩
    · rw [updN c, updN c, updN c, updN (show 11 + i ≠ 11 + m by omega), updN (show 27 + i ≠ 27 + m by omega), updN (show 27 + i ≠ 11 + m by omega), updN (show 43 + i ≠ 43 + m by omega), updN (show 43 + i ≠ 27 + m by omega), updN (show 43 + i ≠ 11 + m by omega)]
      exact hS.2.2.1 i (by omega)
theorem unlikeC (hn : n ≤ 10) (a b : Int32) : (p_X6_areUnlike (nI n) a b = some 0 ∧ (p_X7_isLevel (nI n) a = some 0 ∨ (p_X7_isLevel (nI n) a = some 1 ∧ (p_X7_isLevel (nI n) b = some 0 ∨ (p_X7_isLevel (nI n) b = some 1 ∧ a = b))))) ∨ ∃ u v, u < n ∧ v < n ∧ u ≠ v ∧ a = nI u ∧ b = nI v ∧ ¬ a = b ∧ p_X6_areUnlike (nI n) a b = some 1 ∧ p_X7_isLevel (nI n) a = some 1 ∧ p_X7_isLevel (nI n) b = some 1 := by
  unfold p_X6_areUnlike
  rcases lvC hn a with ⟨h1, h2⟩ | ⟨u, hu, rfl, h1, h2⟩
  · rw [h1]; exact Or.inl ⟨rfl, Or.inl h2⟩
  rcases lvC hn b with ⟨h3, h4⟩ | ⟨v, hv, rfl, h3, h4⟩
  · rw [h1, h3]; exact Or.inl ⟨rfl, Or.inr ⟨h2, Or.inl h4⟩⟩
  rw [h1, h3, bsome, z0, bsome, z0]
  by_cases c : u = v
  · subst c
    refine Or.inl ⟨?_, Or.inr ⟨h2, Or.inr ⟨h4, rfl⟩⟩⟩
    rw [if_pos rfl]
  · have c' : ¬ nI u = nI v := fun q => c ((nI_inj (by omega) (by omega)).mp q)
    refine Or.inr ⟨u, v, hu, hv, c, rfl, rfl, c', ?_, h2, h4⟩
    rw [if_neg c']
end
