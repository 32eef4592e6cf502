/-! retract: a bound is taken back -/
def tbI (b i : Nat) (f0 f : Nat → Int32) : Prop := ∀ q, f q = if b ≤ q ∧ q < i then f0 (q + 1) else f0 q
theorem tbI.step {b i : Nat} {f0 f : Nat → Int32} (h : tbI b i f0 f) (hb : b ≤ i) : f (i + 1) = f0 (i + 1) ∧ tbI b (i + 1) f0 (upd f i (f (i + 1))) := by
  have e : f (i + 1) = f0 (i + 1) := by rw [h (i + 1), if_neg (by omega)]
  refine ⟨e, fun q => ?_⟩
  by_cases hq : q = i
  · subst hq; rw [updS, e, if_pos (by omega)]
  · rw [updN hq, h q]
    by_cases c : b ≤ q ∧ q < i
    · rw [if_pos c, if_pos (by omega)]
    · rw [if_neg c, if_neg (by omega)]
def tbR (M : Nat) (f t w row0 row : Nat → Int32) : Prop := row 10 = nI M ∧ (∀ q, q < 10 → row q = row0 q) ∧ ∀ q, q < M + 1 → f q = row (11 + q) ∧ t q = row (27 + q) ∧ w q = row (43 + q)
theorem tb_loop {b M : Nat} (hM : M < 16) {f0 t0 w0 row0 bf : Nat → Int32} {um : Int32} : ∀ (r i fuel : Nat) (f t w row : Nat → Int32), i + r = M → b ≤ i → r < fuel → tbI b i f0 f → tbI b i t0 t → tbI b i w0 w → tbR M f t w row0 row → ∃ f' t' w' row', q_X4_takeBack_4 (nI b) fuel (nI (i + 1)) f t w (nI (M + 1)) = some (f', t', w', nI M) ∧ q_X7_retract_38 (nI b) fuel (nI i) row bf um = some (nI M, row', bf, um) ∧ tbI b M f0 f' ∧ tbI b M t0 t' ∧ tbI b M w0 w' ∧ tbR M f' t' w' row0 row'
  | r, i, 0, f, t, w, row, _, _, hf, _, _, _, _ => absurd hf (Nat.not_lt_zero _)
  | 0, i, fuel + 1, f, t, w, row, hi, hb, hf, h1, h2, h3, h4 => by
    have hi' : i = M := by omega
    subst hi'
    have e : rd row 59 10 = some (nI i) := by rw [show rd row 59 10 = some (row 10) from rd_nI (k := 10) (by omega) (by omega), h4.1]
    rw [q_X4_takeBack_4.eq_2, q_X7_retract_38.eq_2, e, bsome, if_pos ((nIle (by omega) (by omega)).mpr (Nat.le_refl _)), if_pos ((nIle (by omega) (by omega)).mpr (Nat.le_refl _))]
    unfold q_X4_takeBack_60
    rw [nI_pred]
    exact ⟨f, t, w, row, rfl, rfl, h1, h2, h3, h4⟩
  | r + 1, i, fuel + 1, f, t, w, row, hi, hb, hf, h1, h2, h3, h4 => by
    have e : rd row 59 10 = some (nI M) := by rw [show rd row 59 10 = some (row 10) from rd_nI (k := 10) (by omega) (by omega), h4.1]
    have s1 := h1.step hb
    have s2 := h2.step hb
    have s3 := h3.step hb
    obtain ⟨g1, g2, g3⟩ := h4
    have hR : tbR M (upd f i (f (i + 1))) (upd t i (t (i + 1))) (upd w i (w (i + 1))) row0 (upd (upd (upd row (11 + i) (row (11 + i + 1))) (27 + i) (row (27 + i + 1))) (43 + i) (row (43 + i + 1))) := by
      refine ⟨?_, fun q hq => ?_, fun q hq => ?_⟩
      · rw [updN (show 10 ≠ 43 + i by omega), updN (show 10 ≠ 27 + i by omega), updN (show 10 ≠ 11 + i by omega)]; exact g1
      · rw [updN (show q ≠ 43 + i by omega), updN (show q ≠ 27 + i by omega), updN (show q ≠ 11 + i by omega)]; exact g2 q hq
      · obtain ⟨a1, a2, a3⟩ := g3 (i + 1) (by omega)
        rw [updN (show 11 + q ≠ 43 + i by omega), updN (show 11 + q ≠ 27 + i by omega), updN (show 27 + q ≠ 43 + i by omega)]
        by_cases c : q = i
        · subst c
          rw [updS, updS, updS, updS, updS, updS]
          exact ⟨a1, a2, a3⟩
        · rw [updN c, updN c, updN c, updN (show 11 + q ≠ 11 + i by omega), updN (show 27 + q ≠ 27 + i by omega), updN (show 27 + q ≠ 11 + i by omega), updN (show 43 + q ≠ 43 + i by omega), updN (show 43 + q ≠ 27 + i by omega), updN (show 43 + q ≠ 11 + i by omega)]
          exact g3 q hq
    have go := tb_loop (bf := bf) (um := um) hM r (i + 1) fuel (upd f i (f (i + 1))) (upd t i (t (i + 1))) (upd w i (w (i + 1))) _ (by omega) (by omega) (by omega) s1.2 s2.2 s3.2 hR
    obtain ⟨f', t', w', row', q1, q2, q3⟩ := go
    refine ⟨f', t', w', row', ?_, ?_, q3⟩
    · rw [q_X4_takeBack_4.eq_2, if_neg (nI_ge (a := i + 1) (b := M + 1) (by omega) (by omega)), nI_pred]
      rw [rd_nI (f := f) (k := i + 1) (by omega) (by omega), bsome, wr_nI (f := f) (k := i) (by omega) (by omega), bsome, rd_nI (f := t) (k := i + 1) (by omega) (by omega), bsome, wr_nI (f := t) (k := i) (by omega) (by omega), bsome, rd_nI (f := w) (k := i + 1) (by omega) (by omega), bsome, wr_nI (f := w) (k := i) (by omega) (by omega), bsome, nI1]
      exact q1
    · rw [q_X7_retract_38.eq_2, e, bsome, if_neg (nI_ge (a := i) (b := M) (by omega) (by omega)), pl11, pl27, pl43, nI1, nI1, nI1]
      rw [rd_nI (f := row) (k := 11 + i + 1) (by omega) (by omega), bsome, wr_nI (f := row) (k := 11 + i) (by omega) (by omega), bsome, rd_nI (k := 27 + i + 1) (by omega) (by omega), bsome, wr_nI (k := 27 + i) (by omega) (by omega), bsome, rd_nI (k := 43 + i + 1) (by omega) (by omega), bsome, wr_nI (k := 43 + i) (by omega) (by omega), bsome, nI1]
      rw [updN (show 27 + i + 1 ≠ 11 + i by omega), updN (show 43 + i + 1 ≠ 27 + i by omega), updN (show 43 + i + 1 ≠ 11 + i by omega)]
      exact q2
section
variable {n m : Nat} {Nk Nf Nt Nw now : Nat → Int32} {G : Nat → Nat → Int32}
theorem e_retract (hS : SM n m Nk Nf Nt Nw now) (hL : LG n m Nf Nt Nw G) {c : Nat} {p : Nat → Nat} {Ek Ef Et Ew : Nat → Nat → Int32} {El Eb before : Nat → Int32} (h : UNr n c p Ek Ef Et Ew El Eb before) (a : Int32) : ∃ r c' m' f' t' w' p' Ek' Ef' Et' Ew' El' Eb' G' now' before', p_X6_retract (nI c) Nk Nf Nt Nw (nI n) (nI m) p Ek Ef Et Ew El Eb G (nI n) a = some (r, nI c', f', t', w', nI m', p', Ek', Ef', Et', Ew', El', Eb', G', nI n) ∧ p_X7_retract now before (nI c) a = some (r, now', before', nI c') ∧ SM n m' Nk f' t' w' now' ∧ LG n m' f' t' w' G' ∧ UNr n c' p' Ek' Ef' Et' Ew' El' Eb' before' := by
  have hn := hS.n10
  have hm := hS.m16
  have e : rd now 59 10 = some (nI m) := by rw [show rd now 59 10 = some (now 10) from rd_nI (k := 10) (by omega) (by omega), hS.1]
  unfold p_X6_retract p_X7_retract p_X4_takeBack
  rw [e, bsome]
  rcases bdC (show m ≤ 1000 by omega) a with ⟨h1, h2⟩ | ⟨b, hb, rfl, h1, h2⟩
  · rw [h1, h2]; exact ⟨-1, c, m, Nf, Nt, Nw, p, Ek, Ef, Et, Ew, El, Eb, G, now, before, rfl, rfl, hS, hL, h⟩
  rw [h1, h2, bsome, bsome, z0, z0]
  obtain ⟨M, rfl⟩ : ∃ q, m = q + 1 := ⟨m - 1, by omega⟩
  obtain ⟨c', p', Ek', Ef', Et', Ew', El', Eb', before', g1, g2, g3⟩ := e_remember hS h
  have tb0 : ∀ f : Nat → Int32, tbI b b f f := fun f q => by rw [if_neg (by omega)]
  obtain ⟨f', t', w', row', l1, l2, i1, i2, i3, i4⟩ := tb_loop (b := b) (M := M) (by omega) (bf := before') (um := nI c') (M - b) b FU Nf Nt Nw (upd now 10 (nI M)) (row0 := now) (by omega) (Nat.le_refl _) (by unfold FU; omega) (tb0 Nf) (tb0 Nt) (tb0 Nw) ⟨updS _ _ _, fun q hq => updN (by omega), fun q hq => by rw [updN (by omega), updN (by omega), updN (by omega)]; exact hS.2.2.1 q hq⟩
  -- each bound of the new ones is one of the old ones
  have old : ∀ q, q < M → ∃ q', q' < M + 1 ∧ f' q = Nf q' ∧ t' q = Nt q' ∧ w' q = Nw q' := fun q hq => by
    by_cases cc : b ≤ q ∧ q < M
    · exact ⟨q + 1, by omega, by rw [i1 q, if_pos cc], by rw [i2 q, if_pos cc], by rw [i3 q, if_pos cc]⟩
    · exact ⟨q, by omega, by rw [i1 q, if_neg cc], by rw [i2 q, if_neg cc], by rw [i3 q, if_neg cc]⟩
  have hg : gOK n M f' t' w' := ⟨hn, by omega, fun q hq => by
    obtain ⟨q', a1, a2, a3, a4⟩ := old q hq
    rw [a2, a3, a4]
    exact hS.2.2.2.1.2.2 q' a1⟩
  have hN : NPC (Ed f' t' w' M 0) := hS.2.2.2.2.sub (fun x y d ⟨q, b1, b2, b3, b4, b5⟩ => by
    obtain ⟨q', a1, a2, a3, a4⟩ := old q b1
    exact ⟨q', a1, bit0 q', by rw [← a2]; exact b3, by rw [← a3]; exact b4, by rw [← a4]; exact b5⟩)
  obtain ⟨G', m1, m2⟩ := ms_ok hg hN G (nI n)
  have w1 : wr now 59 10 (nI M) = some (upd now 10 (nI M)) := wr_nI (k := 10) (by omega) (by omega)
  refine ⟨nI M, c', M, f', t', w', p', Ek', Ef', Et', Ew', El', Eb', G', row', before', ?_, ?_, ⟨i4.1, fun q hq => ?_, fun q hq => i4.2.2 q (by omega), hg, hN⟩, m2, g3⟩
  · rw [g1]
    refine bsome.trans ?_
    show (q_X4_takeBack_4 (nI b) FU (nI b + 1) Nf Nt Nw (nI (M + 1))).bind _ = _
    rw [nI1, l1]
    refine bsome.trans ?_
    show (p_X1_measure f' t' w' (nI n) (nI M) G (nI n)).bind _ = _
    rw [m1]
    exact bsome
  · rw [g2]
    refine bsome.trans ?_
    simp only [bsome, nI_pred, w1]
    exact l2
  · rw [i4.2.1 q (by omega)]; exact hS.2.1 q hq
end
