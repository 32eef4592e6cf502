/-! laying: an item here, an ask there -/
section
variable {L N m : Nat} {KD Nk Nf Nt Nw now : Nat → Int32} {G : Nat → Nat → Int32}
theorem pose2 (hS : SL L N m KD Nk Nf Nt Nw now) (hL : LG L m Nf Nt Nw G) {c : Nat} {p : Nat → Nat} (hU : UNw c p) (Ek Ef Et Ew : Nat → Nat → Int32) (El Eb : Nat → Int32) {cr : Nat} {O rnd : Nat → Int32} {Oa over : Int32} (hr : RNr cr O rnd Oa over) (On R0 e0 bb0 : Nat → Int32) (rf rl : Int32) {Ll : Int32} (hLl : Ll = nI L) {ask kin : Nat → Int32} {nA nAf uu vv : Nat} (hA : nA < nAf) (hAf : nAf ≤ 28) (hu : uu < L) (hv : vv < L) (k0 : ask (4 * nA) = nI uu) (k2 : ask (4 * nA + 2) = nI vv) (b1 : -9 ≤ (ask (4 * nA + 1)).toInt) (b2 : (ask (4 * nA + 1)).toInt ≤ 9) (um km tm : Int32) :
    ∃ r c' rf' cr' m' O' On' Oa' f' t' w' p' Ek' Ef' Et' Ew' El' Eb' G' now' over' rnd' R ed bb', p_X6_pose (nI c) rf O On (nI cr) Oa Nk Nf Nt Nw (nI L) (nI m) p Ek Ef Et Ew El Eb G Ll (nI uu) (ask (4 * nA + 1)) (nI vv) = some (r, nI c', rf', O', On', nI cr', Oa', f', t', w', nI m', p', Ek', Ef', Et', Ew', El', Eb', G', nI L) ∧ (∀ fuel2, q_X7_begin_58 rl (nI nAf) ask kin (fuel2 + 1) (nI nA) (nI N) now um km rf (nI cr) over rnd tm R0 e0 bb0 = q_X7_begin_58 rl (nI nAf) ask kin fuel2 (nI (nA + 1)) (nI N) now' um km rf' (nI cr') over' rnd' tm R ed bb') ∧ SL L N m' KD Nk f' t' w' now' ∧ LG L m' f' t' w' G' ∧ UNw c' p' ∧ RNr cr' O' rnd' Oa' over' := by
  subst hLl
  have hn : L ≤ 10 := by have := hS.1; have := hS.2.1; omega
  have hm : m ≤ 16 := hS.2.2.2.2.2.2.1.2.1
  obtain ⟨wt, w1, w2, w3, w4⟩ := wtC2 (Nk := Nk) (now := now) (v := vv) (by omega) (hS.2.2.2.2.1 vv hv).1 b1 b2
  have iv : ix 10 (nI vv) = some vv := ix_nI (by omega) (by omega)
  have rg : rd (G vv) 10 (nI uu) = some (G vv uu) := rd_nI (by omega) (by omega)
  have e0' : rd now 59 10 = some (nI m) := by rw [show rd now 59 10 = some (now 10) from rd_nI (k := 10) (by omega) (by omega), hS.2.2.1]
  have r0 : rd ask 160 (4 * nI nA) = some (nI uu) := by rw [four, rd_nI (by omega) (by omega), k0]
  have r1 : rd ask 160 (4 * nI nA + 1) = some (ask (4 * nA + 1)) := by rw [four, nI1, rd_nI (by omega) (by omega)]
  have r2 : rd ask 160 (4 * nI nA + 2) = some (nI vv) := by rw [four, show nI (4 * nA) + 2 = nI (4 * nA + 2) from nIadd _ 2, rd_nI (by omega) (by omega), k2]
  rcases e_may2 hS hL hu hv (w2 now rfl) w3 w4 O On rnd bb0 R0 e0 (nI cr) (nI cr) over rf with ⟨cc, O', On', rnd', bb', R, ed, over', c1, c2, c3, c4, c5, c6⟩ | ⟨R, ed, c1, c2, c3⟩
  · refine ⟨-2, c, rf + 1, cc, m, O', On', G vv uu + wt, Nf, Nt, Nw, p, Ek, Ef, Et, Ew, El, Eb, G, now, over', rnd', R, ed, bb', ?_, fun fuel2 => ?_, hS, hL, hU, c6⟩
    · unfold p_X6_pose
      rw [w1, bsome, c2, bsome, z0, iv, bsome, rg, bsome, if_neg c3, c4]
      simp only [bsome, rg]
    · rw [q_X7_begin_58.eq_2, if_neg (nI_ge (a := nA) (b := nAf) (by omega) (by omega)), r0, bsome, r1, bsome, r2, bsome, c5, nI1]
      exact bsome.trans z1
  · have posed : p_X6_pose (nI c) rf O On (nI cr) Oa Nk Nf Nt Nw (nI L) (nI m) p Ek Ef Et Ew El Eb G (nI L) (nI uu) (ask (4 * nA + 1)) (nI vv) = q_X6_pose_91 Nk (nI L) (nI uu) (ask (4 * nA + 1)) (nI vv) wt (nI c) rf O On (nI cr) Oa Nf Nt Nw (nI m) p Ek Ef Et Ew El Eb G (nI L) := by
      unfold p_X6_pose
      rw [w1, bsome]
      rcases c1 with c1 | ⟨c1, c1'⟩
      · rw [c1, bsome, z1]
      · rw [c1, bsome, z0, iv, bsome, rg, bsome, if_pos c1']
    rw [posed]
    unfold q_X6_pose_91
    by_cases hm' : m = 16
    · subst hm'
      rw [if_neg (show ¬ nI 16 < 16 by decide)]
      refine ⟨-3, c, rf, cr, 16, O, On, Oa, Nf, Nt, Nw, p, Ek, Ef, Et, Ew, El, Eb, G, now, over, rnd, R, ed, bb0, rfl, fun fuel2 => ?_, hS, hL, hU, hr⟩
      rw [q_X7_begin_58.eq_2, if_neg (nI_ge (a := nA) (b := nAf) (by omega) (by omega)), r0, bsome, r1, bsome, r2, bsome, c2, nI1]
      refine bsome.trans ?_
      show (if (1 : Int32) = 0 then _ else (rd now 59 10).bind _) = _
      rw [z0, e0', bsome, if_pos (show (16 : Int32) ≤ nI 16 by decide)]
    · obtain ⟨c', p', Ek', Ef', Et', Ew', El', Eb', g1, g2⟩ := rem_weak hU Nk Nf Nt Nw (nI L) (nI m) Ek Ef Et Ew El Eb
      obtain ⟨f', t', w', now', G', t1, t2, t3, t4, t5⟩ := e_take2 (G := G) hS hu hv (show m < 16 by omega) w2 w3 w4 c3 (nI L)
      refine ⟨nI m, c', rf, cr, m + 1, O, On, Oa, f', t', w', p', Ek', Ef', Et', Ew', El', Eb', G', now', over, rnd, R, ed, bb0, ?_, fun fuel2 => ?_, t3, t5, g2, hr⟩
      · rw [if_pos (show nI m < 16 from nI_lt (a := m) (b := 16) (by omega) (by omega)), g1]
        simp only [bsome, t1, t4, nI_pred]
      · rw [q_X7_begin_58.eq_2, if_neg (nI_ge (a := nA) (b := nAf) (by omega) (by omega)), r0, bsome, r1, bsome, r2, bsome, c2, nI1]
        refine bsome.trans ?_
        show (if (1 : Int32) = 0 then _ else (rd now 59 10).bind _) = _
        rw [z0, e0', bsome, if_neg (show ¬ (16 : Int32) ≤ nI m from nI_ge (a := m) (b := 16) (by omega) (by omega))]
        simp only [bsome, t2]
end
theorem GT.le {X_c : Nat → Int32} {len N nAf : Nat} {askF kindF : Nat → Int32} : ∀ (r j L nA : Nat), GT X_c len N nAf askF kindF r j L nA → L ≤ N ∧ nA ≤ nAf ∧ (0 < L ∨ j = len ∨ 0 < N)
  | 0, _, _, _, h => h.elim
  | r + 1, j, L, nA, h => by
    rcases h with ⟨h1, h2, h3⟩ | ⟨j', -, -, -, -, -, -, h⟩ | ⟨uu, vv, j', -, -, h1, -, -, -, -, -, -, -, h⟩
    · exact ⟨by omega, by omega, by omega⟩
    · have := GT.le r j' (L + 1) nA h
      exact ⟨by omega, by omega, by omega⟩
    · have := GT.le r j' L (nA + 1) h
      exact ⟨by omega, by omega, by omega⟩
section
variable {len N nAf : Nat} {X_c KD ask : Nat → Int32}
theorem lay_loop (hlen : len ≤ 200) (hAf : nAf ≤ 28) (rl km um tm : Int32) : ∀ (r j L nA it fuel fuel2 m c cr : Nat) (Rq rf Ms Oa Ll over : Int32) (X_d O On Nk Nf Nt Nw now rnd R0 e0 bb0 El Eb : Nat → Int32) (p : Nat → Nat) (Ek Ef Et Ew G : Nat → Nat → Int32), GT X_c len N nAf ask KD r j L nA → 3 * it ≤ j → j ≤ len → r ≤ fuel → r ≤ fuel2 → SL L N m KD Nk Nf Nt Nw now → LG L m Nf Nt Nw G → UNw c p → RNr cr O rnd Oa over → (L = 0 ∨ Ll = nI L) →
    ∃ rf' cr' m' Oa' Ll' over' X_d' O' On' k' f' t' w' now' rnd' R ed bb' El' Eb' p' Ek' Ef' Et' Ew' G', q_X6_layText_46 X_c (nI len) fuel (nI it) (nI j) (nI c) Rq rf X_d Ms O On (nI cr) Oa Nk Nf Nt Nw (nI L) (nI m) p Ek Ef Et Ew El Eb G Ll = some (0, Rq, rf', X_d', Ms, O', On', nI cr', Oa', k', f', t', w', nI N, nI m', p', Ek', Ef', Et', Ew', El', Eb', G', Ll') ∧ q_X7_begin_58 rl (nI nAf) ask KD fuel2 (nI nA) (nI N) now um km rf (nI cr) over rnd tm R0 e0 bb0 = some (nI N, now', 0, 0, rf', nI cr', over', rnd', 0, R, ed, bb') ∧ SM N m' k' f' t' w' now' ∧ LG N m' f' t' w' G' ∧ UNw 0 p' ∧ RNr cr' O' rnd' Oa' over' ∧ (N = 0 ∨ Ll' = nI N)
  | 0, j, L, nA, it, fuel, fuel2, m, c, cr, Rq, rf, Ms, Oa, Ll, over, X_d, O, On, Nk, Nf, Nt, Nw, now, rnd, R0, e0, bb0, El, Eb, p, Ek, Ef, Et, Ew, G, h, _, _, _, _, _, _, _, _, _ => h.elim
  | r + 1, j, L, nA, it, 0, fuel2, m, c, cr, Rq, rf, Ms, Oa, Ll, over, X_d, O, On, Nk, Nf, Nt, Nw, now, rnd, R0, e0, bb0, El, Eb, p, Ek, Ef, Et, Ew, G, _, _, _, hf, _, _, _, _, _, _ => absurd hf (by omega)
  | r + 1, j, L, nA, it, fuel + 1, 0, m, c, cr, Rq, rf, Ms, Oa, Ll, over, X_d, O, On, Nk, Nf, Nt, Nw, now, rnd, R0, e0, bb0, El, Eb, p, Ek, Ef, Et, Ew, G, _, _, _, _, hf, _, _, _, _, _ => absurd hf (by omega)
  | r + 1, j, L, nA, it, fuel + 1, fuel2 + 1, m, c, cr, Rq, rf, Ms, Oa, Ll, over, X_d, O, On, Nk, Nf, Nt, Nw, now, rnd, R0, e0, bb0, El, Eb, p, Ek, Ef, Et, Ew, G, h, hit, hj, hf, hf2, hS, hL, hU, hr, hLl => by
    have hN10 := hS.2.1
    have hLN := hS.1
    have nneg : ∀ x, x < 1000 → ¬ nI x < 0 := fun x hx q => by have := tlt.mp q; rw [tnI (by omega), tlit0] at this; omega
    rw [q_X6_layText_46.eq_2, if_neg (show ¬ (200 : Int32) ≤ nI it from nI_ge (a := it) (b := 200) (by omega) (by omega)), if_neg (nneg j (by omega))]
    have hGT : GT X_c len N nAf ask KD (r + 1) j L nA := h
    rcases h with ⟨h1, h2, h3⟩ | ⟨j', h1, h2, h3, h4, h5, ⟨h6, h7, h8⟩, h9⟩ | ⟨uu, vv, j', h1, h2, h3, h4, h5, h6, h7, h8, h9, h10, h11⟩
    · subst h1 h2 h3
      rw [if_pos ((nIle (by omega) (by omega)).mpr (Nat.le_refl _)), q_X7_begin_58.eq_2, if_pos ((nIle (by omega) (by omega)).mpr (Nat.le_refl _))]
      exact ⟨rf, cr, m, Oa, Ll, over, X_d, O, On, Nk, Nf, Nt, Nw, now, rnd, R0, e0, bb0, El, Eb, p, Ek, Ef, Et, Ew, G, rfl, rfl, hS.done, hL, ⟨by omega, hU.2⟩, hr, hLl⟩
    · have hle := GT.le _ _ _ _ h9
      obtain ⟨s1, s2, s3, s4, s5, s6, s7, s8⟩ := hS
      have hg' : gOK (L + 1) m Nf Nt Nw := s7.wide (by omega) (by omega)
      obtain ⟨G', m1, m2⟩ := ms_ok hg' s8 G Ll
      have hS' : SL (L + 1) N m KD (upd Nk L (KD L)) Nf Nt Nw now := by
        refine ⟨by omega, s2, s3, s4, fun i hi => ?_, s6, hg', s8⟩
        by_cases e : i = L
        · subst e; rw [updS]; exact ⟨(s4 i (by omega)).symm, h4, h5⟩
        · rw [updN e]; exact s5 i (by omega)
      have hlay : p_X6_layItem (nI c) rf (upd X_d 0 (KD L)) O On (nI cr) Oa Nk Nf Nt Nw (nI L) (nI m) p Ek Ef Et Ew El Eb G Ll 118 = some (nI c, rf, O, On, nI cr, Oa, upd Nk L (KD L), Nf, Nt, Nw, nI (L + 1), nI m, p, Ek, Ef, Et, Ew, El, Eb, G', nI (L + 1)) := by
        unfold p_X6_layItem p_X4_addLevel
        rw [if_pos rfl, up1_0, bsome, if_neg (show ¬ (10 : Int32) ≤ nI L from nI_ge (a := L) (b := 10) (by omega) (by omega)), wr_nI (by omega) (by omega), bsome, nI1]
        simp only [bsome, m1]
      obtain ⟨rf', cr', m', Oa', Ll', over', X_d', O', On', k', f', t', w', now', rnd', R, ed, bb', El', Eb', p', Ek', Ef', Et', Ew', G'', q1, q2, q3⟩ := lay_loop hlen hAf rl km um tm r j' (L + 1) nA (it + 1) fuel (fuel2 + 1) m c cr Rq rf Ms Oa (nI (L + 1)) over (upd X_d 0 (KD L)) O On (upd Nk L (KD L)) Nf Nt Nw now rnd R0 e0 bb0 El Eb p Ek Ef Et Ew G' h9 (by omega) h2 (by omega) (by omega) hS' m2 hU hr (Or.inr rfl)
      refine ⟨rf', cr', m', Oa', Ll', over', X_d', O', On', k', f', t', w', now', rnd', R, ed, bb', El', Eb', p', Ek', Ef', Et', Ew', G'', ?_, q2, q3⟩
      rw [if_neg (nI_ge (a := j) (b := len) (by omega) (by omega)), h6, bsome, h7]
      refine bsome.trans ?_
      refine (congrArg (fun o => Option.bind o _) hlay).trans ?_
      rw [nI1]
      exact q1
    · have hle := GT.le _ _ _ _ h11
      obtain ⟨cc, v0, v1, v2, d1, d2, d3, d4⟩ := h10
      obtain ⟨rr, c', rf', cr', m', O', On', Oa', f', t', w', p', Ek', Ef', Et', Ew', El', Eb', G', now', over', rnd', R, ed, bb', q1, q2, q3, q4, q5, q6⟩ := pose2 (kin := KD) hS hL hU Ek Ef Et Ew El Eb hr On R0 e0 bb0 rf rl (hLl.resolve_left (by omega)) (show nA < nAf by omega) hAf h3 h4 h6 h7 h8 h9 um km tm
      have hlay : p_X6_layItem (nI c) rf (up3 X_d v0 v1 v2) O On (nI cr) Oa Nk Nf Nt Nw (nI L) (nI m) p Ek Ef Et Ew El Eb G Ll cc = some (nI c', rf', O', On', nI cr', Oa', Nk, f', t', w', nI L, nI m', p', Ek', Ef', Et', Ew', El', Eb', G', nI L) := by
        unfold p_X6_layItem
        rcases d1 with ⟨rfl, rfl, rfl, rfl⟩ | ⟨rfl, rfl, rfl, e⟩
        · rw [if_neg (show ¬ (99 : Int32) = 118 by decide), if_pos rfl, up3_0, bsome, up3_1, bsome, up3_2, bsome, q1]
          exact bsome
        · rw [if_neg (show ¬ (100 : Int32) = 118 by decide), if_neg (show ¬ (100 : Int32) = 99 by decide), if_pos rfl, up3_0, bsome, up3_2, bsome, up3_1, bsome, ← e, q1]
          exact bsome
      obtain ⟨rf2, cr2, m2, Oa2, Ll2, over2, X2, O2, On2, k2', f2, t2, w2, now2, rnd2, R2, ed2, bb2, El2, Eb2, p2, Ek2, Ef2, Et2, Ew2, G2, g1, g2, g3⟩ := lay_loop hlen hAf rl km um tm r j' L (nA + 1) (it + 1) fuel fuel2 m' c' cr' Rq rf' Ms Oa' (nI L) over' (up3 X_d v0 v1 v2) O' On' Nk f' t' w' now' rnd' R ed bb' El' Eb' p' Ek' Ef' Et' Ew' G' h11 (by omega) h2 (by omega) (by omega) q3 q4 q5 q6 (Or.inr rfl)
      refine ⟨rf2, cr2, m2, Oa2, Ll2, over2, X2, O2, On2, k2', f2, t2, w2, now2, rnd2, R2, ed2, bb2, El2, Eb2, p2, Ek2, Ef2, Et2, Ew2, G2, ?_, ?_, g3⟩
      · rw [if_neg (nI_ge (a := j) (b := len) (by omega) (by omega)), d2, bsome, d3]
        refine bsome.trans ?_
        refine (congrArg (fun o => Option.bind o _) hlay).trans ?_
        rw [nI1]
        exact g1
      · rw [q2, g2]
end
