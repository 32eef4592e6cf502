/-! ask -/
section
variable {n m : Nat} {Nk Nf Nt Nw now : Nat → Int32} {G : Nat → Nat → Int32}
theorem e_ask (hS : SM n m Nk Nf Nt Nw now) (hL : LG n m Nf Nt Nw G) {c : Nat} {p : Nat → Nat} {Ek Ef Et Ew : Nat → Nat → Int32} {El Eb before : Nat → Int32} (h : UNr n c p Ek Ef Et Ew El Eb before) {cr : Nat} {O rnd : Nat → Int32} {Oa over : Int32} (hr : RNr cr O rnd Oa over) (On R0 e0 bb0 : Nat → Int32) (rf a1 a2 a3 : Int32) : ∃ r rf' c' cr' m' O' On' Oa' f' t' w' p' Ek' Ef' Et' Ew' El' Eb' G' now' before' over' rnd' R ed bb', p_X6_ask (nI c) rf O On (nI cr) Oa Nk Nf Nt Nw (nI n) (nI m) p Ek Ef Et Ew El Eb G (nI n) a1 a2 a3 = some (r, nI c', rf', O', On', nI cr', Oa', f', t', w', nI m', p', Ek', Ef', Et', Ew', El', Eb', G', nI n) ∧ p_X7_ask (nI n) now before (nI c) rf (nI cr) over rnd R0 e0 bb0 a1 a2 a3 = some (r, now', before', nI c', rf', nI cr', over', rnd', R, ed, bb') ∧ SM n m' Nk f' t' w' now' ∧ LG n m' f' t' w' G' ∧ UNr n c' p' Ek' Ef' Et' Ew' El' Eb' before' ∧ RNr cr' O' rnd' Oa' over' := by
  have hn := hS.n10
  have hm := hS.m16
  unfold p_X6_ask p_X7_ask
  have bad : ∃ r rf' c' cr' m' O' On' Oa' f' t' w' p' Ek' Ef' Et' Ew' El' Eb' G' now' before' over' rnd' R ed bb', (some ((-1 : Int32), nI c, rf, O, On, nI cr, Oa, Nf, Nt, Nw, nI m, p, Ek, Ef, Et, Ew, El, Eb, G, nI n)) = some (r, nI c', rf', O', On', nI cr', Oa', f', t', w', nI m', p', Ek', Ef', Et', Ew', El', Eb', G', nI n) ∧ (some ((-1 : Int32), now, before, nI c, rf, nI cr, over, rnd, R0, e0, bb0)) = some (r, now', before', nI c', rf', nI cr', over', rnd', R, ed, bb') ∧ SM n m' Nk f' t' w' now' ∧ LG n m' f' t' w' G' ∧ UNr n c' p' Ek' Ef' Et' Ew' El' Eb' before' ∧ RNr cr' O' rnd' Oa' over' := ⟨-1, rf, c, cr, m, O, On, Oa, Nf, Nt, Nw, p, Ek, Ef, Et, Ew, El, Eb, G, now, before, over, rnd, R0, e0, bb0, rfl, rfl, hS, hL, h, hr⟩
  rcases unlikeC hn a1 a3 with ⟨h1, h2⟩ | ⟨u, v, hu, hv, huv, rfl, rfl, hne, h1, h2, h3⟩
  · rw [h1, bsome, z1]
    rcases h2 with h2 | ⟨h2, h3⟩
    · rw [h2, bsome, z1]; exact bad
    · rw [h2, bsome, z0]
      rcases kC a2 with ⟨k1, k2⟩ | ⟨b1, b2, k1, k2⟩
      · rw [k2, bsome, z1]; exact bad
      · rw [k2, bsome, z0]
        rcases h3 with h3 | ⟨h3, h4⟩
        · rw [h3, bsome, z1]; exact bad
        · rw [h3, bsome, z0, if_pos h4]; exact bad
  · rw [h1, h2, bsome, bsome, z0, z0]
    rcases kC a2 with ⟨k1, k2⟩ | ⟨b1, b2, k1, k2⟩
    · rw [k1, k2, bsome, bsome, z1, z1]; exact bad
    · rw [k1, k2, bsome, bsome, z0, z0, h3, bsome, z0, if_neg hne]
      clear bad
      obtain ⟨wt, w1, w2, w3, w4⟩ := wtC hS hv b1 b2
      have iv : ix 10 (nI v) = some v := ix_nI (by omega) (by omega)
      have rg : rd (G v) 10 (nI u) = some (G v u) := rd_nI (by omega) (by omega)
      have e0' : rd now 59 10 = some (nI m) := by rw [show rd now 59 10 = some (now 10) from rd_nI (k := 10) (by omega) (by omega), hS.1]
      rcases e_may hS hL hu hv (w2 now rfl) w3 w4 O On rnd bb0 R0 e0 (nI cr) (nI cr) over rf with ⟨cc, O', On', rnd', bb', R, ed, over', c1, c2, c3, c4, c5, c6⟩ | ⟨R, ed, c1, c2, c3⟩
      · refine ⟨-2, rf + 1, c, cc, m, O', On', G v u + wt, Nf, Nt, Nw, p, Ek, Ef, Et, Ew, El, Eb, G, now, before, over', rnd', R, ed, bb', ?_, ?_, hS, hL, h, c6⟩
        · unfold p_X6_pose
          rw [w1, bsome, c2, bsome, z0, iv, bsome, rg, bsome, if_neg c3, c4]
          simp only [bsome, rg]
        · rw [c5]
          exact bsome.trans z1
      · have posed : p_X6_pose (nI c) rf O On (nI cr) Oa Nk Nf Nt Nw (nI n) (nI m) p Ek Ef Et Ew El Eb G (nI n) (nI u) a2 (nI v) = q_X6_pose_91 Nk (nI n) (nI u) a2 (nI v) wt (nI c) rf O On (nI cr) Oa Nf Nt Nw (nI m) p Ek Ef Et Ew El Eb G (nI n) := by
          unfold p_X6_pose
          rw [w1, bsome]
          rcases c1 with c1 | ⟨c1, c1'⟩
          · rw [c1, bsome, z1]
          · rw [c1, bsome, z0, iv, bsome, rg, bsome, if_pos c1']
        rw [posed, c2]
        unfold q_X6_pose_91
        by_cases hm' : m = 16
        · subst hm'
          rw [if_neg (show ¬ nI 16 < 16 by decide)]
          refine ⟨-3, rf, c, cr, 16, O, On, Oa, Nf, Nt, Nw, p, Ek, Ef, Et, Ew, El, Eb, G, now, before, over, rnd, R, ed, bb0, rfl, ?_, hS, hL, h, hr⟩
          refine bsome.trans ?_
          show (if (1 : Int32) = 0 then _ else (rd now 59 10).bind _) = _
          rw [z0, e0', bsome, if_pos (show nI 16 = 16 from rfl)]
        · obtain ⟨c', p', Ek', Ef', Et', Ew', El', Eb', before', g1, g2, g3⟩ := e_remember hS h
          obtain ⟨f', t', w', now', G', t1, t2, t3, t4, t5⟩ := e_take (G := G) hS hu hv (show m < 16 by omega) w2 w3 w4 c3 (nI n)
          have e1' : rd now' 59 10 = some (nI (m + 1)) := by rw [show rd now' 59 10 = some (now' 10) from rd_nI (k := 10) (by omega) (by omega), t3.1]
          refine ⟨nI m, rf, c', cr, m + 1, O, On, Oa, f', t', w', p', Ek', Ef', Et', Ew', El', Eb', G', now', before', over, rnd, R, ed, bb0, ?_, ?_, t3, t5, g3, hr⟩
          · rw [if_pos (show nI m < 16 from nI_lt (a := m) (b := 16) (by omega) (by omega)), g1]
            simp only [bsome, t1, t4, nI_pred]
          · refine bsome.trans ?_
            show (if (1 : Int32) = 0 then _ else (rd now 59 10).bind _) = _
            rw [z0, e0', bsome, if_neg (show ¬ nI m = 16 from fun q => hm' ((nI_inj (b := 16) (by omega) (by omega)).mp q)), g2]
            simp only [bsome, t2, e1', nI_pred]
end
