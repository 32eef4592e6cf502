/-! lay -/
theorem begin_row {N : Nat} (hN : N ≤ 10) (rl ra : Int32) (ask KD : Nat → Int32) (um km rf rm ro tm : Int32) (rnd R e bb : Nat → Int32) : ∀ (r i fuel : Nat) (now : Nat → Int32), i + r = 59 → r < fuel → (∀ q, q < i → now q = if q < N then KD q else 0) → ∃ now', q_X7_begin_10 rl ra ask KD fuel (nI i) (nI N) now um km rf rm ro rnd tm R e bb = q_X7_begin_46 rl ra ask KD (nI N) now' um km rf rm ro rnd tm R e bb ∧ ∀ q, q < 59 → now' q = if q < N then KD q else 0
  | r, i, 0, now, _, hf, _ => absurd hf (Nat.not_lt_zero _)
  | 0, i, fuel + 1, now, hi, _, h => by
    rw [q_X7_begin_10.eq_2, if_pos (show (59 : Int32) ≤ nI i from nI_le (a := 59) (b := i) (by omega) (by omega))]
    exact ⟨now, rfl, fun q hq => h q (by omega)⟩
  | r + 1, i, fuel + 1, now, hi, hf, h => by
    rw [q_X7_begin_10.eq_2, if_neg (show ¬ (59 : Int32) ≤ nI i from nI_ge (a := i) (b := 59) (by omega) (by omega)), nI1]
    by_cases c : i < N
    · rw [if_neg (nI_ge (a := i) (b := N) (by omega) (by omega)), rd_nI (by omega) (by omega), bsome, wr_nI (by omega) (by omega), bsome]
      refine begin_row hN rl ra ask KD um km rf rm ro tm rnd R e bb r (i + 1) fuel _ (by omega) (by omega) (fun q hq => ?_)
      by_cases e : q = i
      · subst e; rw [updS, if_pos c]
      · rw [updN e]; exact h q (by omega)
    · rw [if_pos ((nIle (by omega) (by omega)).mpr (by omega)), wr_nI (by omega) (by omega), bsome]
      refine begin_row hN rl ra ask KD um km rf rm ro tm rnd R e bb r (i + 1) fuel _ (by omega) (by omega) (fun q hq => ?_)
      by_cases e : q = i
      · subst e; rw [updS, if_neg c]
      · rw [updN e]; exact h q (by omega)
theorem NPC.none (f t w : Nat → Int32) : NPC (Ed f t w 0 0) := fun k u d h => by
  cases k with
  | zero => rw [h.2]; exact Int.le_refl _
  | succ k =>
    obtain ⟨y, d1, ⟨b, hb, -⟩, -⟩ := h
    exact absurd hb (Nat.not_lt_zero _)
section
variable {len N nAf : Nat} {X_c KD ask : Nat → Int32}
theorem lay_text (hlen : len ≤ 200) (hN : N ≤ 10) (hAf : nAf ≤ 28) (hG : GT X_c len N nAf ask KD 201 0 0 0) {c : Nat} {p : Nat → Nat} (hU : UNw c p) (Rq rf Ms Oa Os Nl Nb Ll lv um km rf0 rm ro tm : Int32) (X_d O On Nk Nf Nt Nw now rnd R0 e0 bb0 El Eb : Nat → Int32) (Ek Ef Et Ew G : Nat → Nat → Int32) :
    ∃ rf' cr' m' Oa' Ll' over' X_d' O' On' k' f' t' w' now' rnd' R ed bb' El' Eb' p' Ek' Ef' Et' Ew' G', p_X6_layText (nI c) Rq rf X_c X_d (nI len) Ms O On Os Oa Nk Nf Nt Nw Nl Nb p Ek Ef Et Ew El Eb G Ll = some (0, 0, rf', X_d', 0, O', On', nI cr', Oa', k', f', t', w', nI N, nI m', p', Ek', Ef', Et', Ew', El', Eb', G', Ll') ∧ p_X7_begin lv (nI N) (nI nAf) ask KD now um km rf0 rm ro rnd tm R0 e0 bb0 = some (nI N, now', 0, 0, rf', nI cr', over', rnd', 0, R, ed, bb') ∧ SM N m' k' f' t' w' now' ∧ LG N m' f' t' w' G' ∧ UNw 0 p' ∧ RNr cr' O' rnd' Oa' over' ∧ (N = 0 ∨ Ll' = nI N) := by
  obtain ⟨now1, b1, b2⟩ := begin_row hN (nI N) (nI nAf) ask KD um km rf0 rm ro tm rnd R0 e0 bb0 59 0 FU now rfl (by unfold FU; omega) (fun q hq => absurd hq (Nat.not_lt_zero _))
  have hS : SL 0 N 0 KD Nk Nf Nt Nw now1 := ⟨by omega, hN, by rw [b2 10 (by omega), if_neg (by omega)]; rfl, fun i hi => by rw [b2 i (by omega), if_pos hi], fun i hi => absurd hi (Nat.not_lt_zero _), fun i hi => absurd hi (Nat.not_lt_zero _), ⟨by omega, by omega, fun b hb => absurd hb (Nat.not_lt_zero _)⟩, NPC.none Nf Nt Nw⟩
  obtain ⟨rf', cr', m', Oa', Ll', over', X_d', O', On', k', f', t', w', now', rnd', R, ed, bb', El', Eb', p', Ek', Ef', Et', Ew', G', q1, q2, q3⟩ := lay_loop hlen hAf (nI N) km um tm 201 0 0 0 0 FU FU 0 c 0 0 0 0 Oa Ll ro X_d O On Nk Nf Nt Nw now1 rnd R0 e0 bb0 El Eb p Ek Ef Et Ew G hG (by omega) (by omega) (by unfold FU; omega) (by unfold FU; omega) hS (fun u hu => absurd hu (Nat.not_lt_zero _)) hU ⟨by omega, fun i hi => absurd hi (Nat.not_lt_zero _), fun q => (q rfl).elim⟩ (Or.inl rfl)
  refine ⟨rf', cr', m', Oa', Ll', over', X_d', O', On', k', f', t', w', now', rnd', R, ed, bb', El', Eb', p', Ek', Ef', Et', Ew', G', ?_, ?_, q3⟩
  · unfold p_X6_layText
    rw [nI_0] at q1
    exact q1
  · unfold p_X7_begin
    rw [nI_0] at b1 q2
    rw [b1]
    unfold q_X7_begin_46
    exact q2
end
section
variable {n m len : Nat} {Nk Nf Nt Nw now X_c text : Nat → Int32} {G : Nat → Nat → Int32}
theorem e_lay (hS : SM n m Nk Nf Nt Nw now) (hL : LG n m Nf Nt Nw G) {cu : Nat} {p : Nat → Nat} {Ek Ef Et Ew : Nat → Nat → Int32} {El Eb before : Nat → Int32} (hU : UNr n cu p Ek Ef Et Ew El Eb before) {ck : Nat} {Kk Kf Kt Kw : Nat → Nat → Int32} {Kl Kb kept : Nat → Int32} (hK : KPr n ck Kk Kf Kt Kw Kl Kb kept) {cr : Nat} {O rnd : Nat → Int32} {Oa over : Int32} (hr : RNr cr O rnd Oa over) {cm : Nat} {Mv Mm tl ta : Nat → Int32} (hM : MXr n cm Mv Mm tl ta) (hT : TXr len X_c text) (X_d On asked kinds num R0 e0 bb0 : Nat → Int32) (rf rl ra sp : Int32) :
    ∃ r n' m' cu' ck' cr' cm' rf' X_d' O' On' Oa' k' f' t' w' p' Ek' Ef' Et' Ew' El' Eb' G' rl' ra' as' ki' now' over' rnd' sp' nu' R ed bb', p_X6_lay (nI cu) (nI ck) rf X_c X_d (nI len) (nI cm) O On (nI cr) Oa Nk Nf Nt Nw (nI n) (nI m) p Ek Ef Et Ew El Eb G (nI n) = some (r, nI cu', nI ck', rf', X_d', nI cm', O', On', nI cr', Oa', k', f', t', w', nI n', nI m', p', Ek', Ef', Et', Ew', El', Eb', G', nI n') ∧ p_X7_lay (nI len) text (nI n) rl ra asked kinds now (nI cu) (nI ck) rf (nI cr) over rnd (nI cm) sp num R0 e0 bb0 = some (r, nI n', rl', ra', as', ki', now', nI cu', nI ck', rf', nI cr', over', rnd', nI cm', sp', nu', R, ed, bb') ∧ SM n' m' k' f' t' w' now' ∧ LG n' m' f' t' w' G' ∧ UNr n' cu' p' Ek' Ef' Et' Ew' El' Eb' before ∧ KPr n' ck' Kk Kf Kt Kw Kl Kb kept ∧ RNr cr' O' rnd' Oa' over' ∧ MXr n' cm' Mv Mm tl ta := by
  have hlen := hT.1
  have go := rd_all hT 201 0 0 0 0 FU FU asked kinds num X_d (by omega) (by omega) (by omega) (by omega) (by omega) (by unfold FU; omega) (by unfold FU; omega)
  rw [nI_0] at go
  have hread : p_X7_readAll (nI len) text rl ra asked kinds sp num = q_X7_readAll_9 (nI len) text FU 0 0 asked kinds 0 num := rfl
  have hff : p_X5_firstFault X_c X_d (nI len) = q_X5_firstFault_6 X_c (nI len) FU 0 0 0 X_d := rfl
  unfold p_X6_lay p_X7_lay
  rw [hread, hff]
  rcases go with ⟨q, X', L', A', as', ki', sp', nu'', q1, q2, q3⟩ | ⟨X', N, nAf, as', ki', sp', nu'', q1, q2, q3, q4, q5, q6, q7⟩
  · refine ⟨-2, n, m, cu, ck, cr, cm, rf, X', O, On, Oa, Nk, Nf, Nt, Nw, p, Ek, Ef, Et, Ew, El, Eb, G, L', A', as', ki', now, over, rnd, sp', nu'', R0, e0, bb0, ?_, ?_, hS, hL, hU, hK, hr, hM⟩
    · rw [if_neg (nI_ne0 (by omega) (by omega)), q1]
      refine bsome.trans ?_
      show (if nI q = -4 then _ else _) = _
      rw [if_neg (fun g => by have := teq.mp g; rw [tnI (by omega), show (-4 : Int32).toInt = -4 by decide] at this; omega)]
    · rw [q3]
      refine bsome.trans ?_
      show (if nI q = -4 then _ else _) = _
      rw [if_neg (fun g => by have := teq.mp g; rw [tnI (by omega), show (-4 : Int32).toInt = -4 by decide] at this; omega)]
  · by_cases hz : len = 0
    · subst hz
      have hN0 : N = 0 := by
        rcases q7 with ⟨-, h2, -⟩ | ⟨j', h1, h2, -⟩ | ⟨uu, vv, j', h1, h2, -⟩
        · omega
        · omega
        · omega
      subst hN0
      refine ⟨-2, n, m, cu, ck, cr, cm, rf, X_d, O, On, Oa, Nk, Nf, Nt, Nw, p, Ek, Ef, Et, Ew, El, Eb, G, nI 0, nI nAf, as', ki', now, over, rnd, sp', nu'', R0, e0, bb0, ?_, ?_, hS, hL, hU, hK, hr, hM⟩
      · rw [if_pos (show nI 0 = 0 from rfl)]
      · rw [q2]
        refine bsome.trans ?_
        show (if (-4 : Int32) = -4 then (if nI 0 = 0 then _ else _) else _) = _
        rw [if_pos rfl, if_pos (show nI 0 = 0 from rfl)]
    · have hN1 : 0 < N := by have := (GT.le _ _ _ _ q7).2.2; omega
      obtain ⟨rf', cr', m', Oa', Ll', over', X2, O', On', k', f', t', w', now', rnd', R, ed, bb', El', Eb', p', Ek', Ef', Et', Ew', G', g1, g2, g3, g4, g5, g6, g7⟩ := lay_text hlen q3 q4 q7 (c := cu) (p := p) ⟨hU.1, hU.2.1, hU.2.2.1⟩ (nI ck) rf (nI cm) Oa (nI cr) (nI n) (nI m) (nI n) (nI n) (nI cu) (nI ck) rf (nI cr) over (nI cm) X' O On Nk Nf Nt Nw now rnd R0 e0 bb0 El Eb Ek Ef Et Ew G
      have hLl : Ll' = nI N := g7.resolve_left (by omega)
      subst hLl
      have e1' : rd now' 59 10 = some (nI m') := by rw [show rd now' 59 10 = some (now' 10) from rd_nI (k := 10) (by omega) (by omega), g3.1]
      refine ⟨nI m', N, m', 0, 0, cr', 0, rf', X2, O', On', Oa', k', f', t', w', p', Ek', Ef', Et', Ew', El', Eb', G', nI N, nI nAf, as', ki', now', over', rnd', sp', nu'', R, ed, bb', ?_, ?_, g3, g4, ⟨g5.1, g5.2.1, g5.2.2, fun i hi => absurd hi (Nat.not_lt_zero _)⟩, ⟨by omega, fun i hi => absurd hi (Nat.not_lt_zero _)⟩, g6, ⟨by omega, fun i hi => absurd hi (Nat.not_lt_zero _)⟩⟩
      · rw [if_neg (nI_ne0 (by omega) (by omega)), q1]
        refine bsome.trans ?_
        show (if (-4 : Int32) = -4 then (p_X6_layText (nI cu) (nI ck) rf X_c X' (nI len) (nI cm) O On (nI cr) Oa Nk Nf Nt Nw (nI n) (nI m) p Ek Ef Et Ew El Eb G (nI n)).bind _ else _) = _
        rw [if_pos rfl, g1]
        exact bsome
      · rw [q2]
        refine bsome.trans ?_
        show (if (-4 : Int32) = -4 then (if nI N = 0 then _ else (p_X7_begin (nI n) (nI N) (nI nAf) as' ki' now (nI cu) (nI ck) rf (nI cr) over rnd (nI cm) R0 e0 bb0).bind _) else _) = _
        rw [if_pos rfl, if_neg (nI_ne0 (by omega) (by omega)), g2]
        refine bsome.trans ?_
        show (rd now' 59 10).bind _ = _
        rw [e1', bsome]
        rfl
end
