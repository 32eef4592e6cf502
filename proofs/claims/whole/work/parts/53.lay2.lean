/-! laying: some levels are told, others come behind -/
theorem gOK.wide {n N m : Nat} {f t w : Nat → Int32} (h : gOK n m f t w) (h1 : n ≤ N) (h2 : N ≤ 10) : gOK N m f t w := ⟨h2, h.2.1, fun b hb => by have := h.2.2 b hb; omega⟩
section
variable {n m : Nat} {f t w : Nat → Int32} {G : Nat → Nat → Int32} {R ed : Nat → Int32}
theorem tr_walk2 (hg : gOK n m f t w) {N : Nat} (hLN : n ≤ N) (hN10 : N ≤ 10) (hN : NPC (Ed f t w m 0)) (hL : LG n m f t w G) (hE : EdOK (Ed f t w m 0) ed) {e v : Nat} (he : e < n) (hv : v < n) {o bb : Nat → Int32} (hF : FWd (Ed f t w m 0) e n o) {K0 : Nat} (hb : byR (Ed f t w m 0) e N K0 bb) (l a3 ro : Int32) : ∀ (k i x fuel fuel2 : Nat) (O rnd : Nat → Int32), i + k ≤ 9 → k ≤ K0 → k < n → x < n → Lk (Ed f t w m 0) e k x → (∀ j, j < k → ¬ Lk (Ed f t w m 0) e j x) → (∀ j, j < i → O j = rnd j) → rnd i = nI x → k + 1 < fuel → k < fuel2 → ∃ O' rnd', q_X2_trace_19 f t w l (nI m) G (nI v) (nI e) fuel (nI i) (nI x) O o (nI i) = some (O', o, nI (i + k + 1)) ∧ q_X7_findRound_213 (nI N) R ed (nI v) (nI e) a3 fuel2 (nI k) (nI x) (nI (i + 1)) ro rnd bb = some (nI (i + k + 1), R (10 * v + e) + a3, rnd', bb) ∧ ∀ j, j < i + k + 1 → O' j = rnd' j
  | k, i, x, 0, fuel2, O, rnd, _, _, _, _, _, _, _, _, hf, _ => absurd hf (Nat.not_lt_zero _)
  | k, i, x, fuel + 1, 0, O, rnd, _, _, _, _, _, _, _, _, _, hf => absurd hf (Nat.not_lt_zero _)
  | 0, i, x, fuel + 1, fuel2 + 1, O, rnd, hi, hk, _, hx, h1, h2, h3, h4, hf, hf2 => by
    have hn := hg.1
    have hxe := (Lk.zero hN).mp h1
    subst hxe
    obtain ⟨fuel, rfl⟩ : ∃ q, fuel = q + 1 := ⟨fuel - 1, by omega⟩
    refine ⟨upd O i (nI x), rnd, ?_, ?_, fun j hj => ?_⟩
    · rw [q_X2_trace_19.eq_2, if_neg (show ¬ (10 : Int32) ≤ nI i from nI_ge (a := i) (b := 10) (by omega) (by omega)), if_neg (show ¬ nI x < 0 from fun q => by have := tlt.mp q; rw [tnI (by omega), tlit0] at this; omega), wr_nI (by omega) (by omega), bsome, if_pos rfl, nI1, q_X2_trace_19.eq_2]
      by_cases c : (10 : Int32) ≤ nI (i + 1)
      · rw [if_pos c]
      · rw [if_neg c, if_pos (by decide)]
    · rw [q_X7_findRound_213.eq_2, if_pos (show nI 0 ≤ 0 by decide)]
      unfold q_X7_findRound_323
      rw [ten, rd_nI (by omega) (by omega), bsome]
    · by_cases c : j = i
      · subst c; rw [updS, h4]
      · rw [updN c]; exact h3 j (by omega)
  | k + 1, i, x, fuel + 1, fuel2 + 1, O, rnd, hi, hk, hkn, hx, h1, h2, h3, h4, hf, hf2 => by
    have hn := hg.1
    have hxe : x ≠ e := fun q => h2 0 (by omega) ((Lk.zero hN).mpr q)
    obtain ⟨y1, hy1⟩ := Nx.ex h1
    obtain ⟨y0, -, g1, g2⟩ := least_one (P := Nx f t w m e x k) y1 hy1
    have hy0 := g1.lt hg
    have hLy : Lk (Ed f t w m 0) e k y0 := by obtain ⟨_, _, _, _, _, q⟩ := g1; exact q
    have hmy := g1.min hg h2
    have hox := hF.1 x (k + 1) hx hkn h1 h2
    have nx := nx_loop hg hN hL he hx hkn hF hox h2 g1 g2 m 0 FU (-4) (by omega) (by have := hg.2.1; unfold FU; omega) (Or.inl ⟨rfl, fun b' hb' => absurd hb' (Nat.not_lt_zero _)⟩)
    rw [nI_0] at nx
    obtain ⟨O', rnd', q1, q2, q3⟩ := tr_walk2 hg hLN hN10 hN hL hE he hv hF hb l a3 ro k (i + 1) y0 fuel fuel2 (upd O i (nI x)) (upd rnd (i + 1) (nI y0)) (by omega) (by omega) (by omega) hy0 hLy hmy (fun j hj => by
      by_cases c : j = i
      · subst c; rw [updS, updN (by omega), h4]
      · rw [updN c, updN (by omega)]; exact h3 j (by omega)) (updS _ _ _) (by omega) (by omega)
    refine ⟨O', rnd', ?_, ?_, fun j hj => q3 j (by omega)⟩
    · rw [q_X2_trace_19.eq_2, if_neg (show ¬ (10 : Int32) ≤ nI i from nI_ge (a := i) (b := 10) (by omega) (by omega)), if_neg (show ¬ nI x < 0 from fun q => by have := tlt.mp q; rw [tnI (by omega), tlit0] at this; omega), wr_nI (by omega) (by omega), bsome, if_neg (fun q => hxe ((nI_inj (by omega) (by omega)).mp q))]
      unfold p_X2_nextLevel
      rw [nx, bsome, nI1, q1, show i + 1 + k + 1 = i + (k + 1) + 1 by omega]
    · have srch := nx_search (R := R) (gOK.wide hg hLN hN10) hN (by omega) hE (show x < N by omega) h1 (hb.1 (k + 1) x hk (by omega)) (fun y hy => hb.1 k y (by omega) hy) g1 g2 (nI v) (nI e) a3 (q_X7_findRound_213 (nI N) R ed (nI v) (nI e) a3 fuel2) (nI (i + 1)) ro rnd y0 0 FU (by omega) (by unfold FU; omega)
      rw [nI_0] at srch
      rw [q_X7_findRound_213.eq_2, if_neg (show ¬ nI (k + 1) ≤ 0 from fun q => by have := tle.mp q; rw [tnI (by omega), tlit0] at this; omega), srch]
      unfold q_X7_findRound_292
      have em : nI (k + 1) + (-1) = nI k := by
        have := nI_pred k
        rw [Int32.sub_eq_add_neg] at this
        exact this
      rw [wr_nI (by omega) (by omega), bsome, em, nI1, q2, show i + 1 + k + 1 = i + (k + 1) + 1 by omega]
/-- the round of a bound refused: the same levels, so much above -/
theorem e_trace2 (hg : gOK n m f t w) {N : Nat} (hLN : n ≤ N) (hN10 : N ≤ 10) (hN : NPC (Ed f t w m 0)) (hL : LG n m f t w G) (hE : EdOK (Ed f t w m 0) ed) (hR : RcOK (Ed f t w m 0) N R) {e v : Nat} (he : e < n) (hv : v < n) {r : Int} (hm : Mx (Ed f t w m 0) v e r) (O On rnd bb0 : Nat → Int32) (Os rm ro a3 : Int32) : ∃ (c : Nat) (O' On' rnd' bb' : Nat → Int32), p_X2_trace O On Os f t w (nI n) (nI m) G (nI v) (nI e) = some (O', On', nI c) ∧ p_X7_findRound (nI N) rm ro rnd R ed bb0 (nI v) (nI e) a3 = some (nI c, R (10 * v + e) + a3, rnd', bb') ∧ c ≤ 10 ∧ ∀ j, j < c → O' j = rnd' j := by
  have hn := hg.1
  obtain ⟨K1, hK1, hk1⟩ := Lk.ex (hg.inV 0) hN hv hm
  obtain ⟨K0, hK0, hk0, hmin⟩ := least_one (P := fun k => Lk (Ed f t w m 0) e k v) K1 hk1
  obtain ⟨o, o1, o2⟩ := cf_ok hg hN hL he On
  obtain ⟨b1, i1, i2⟩ := by_init (R := R) (ed := ed) (e := e) (by omega) (nI v) a3 rm ro rnd (nI N) 110 0 FU bb0 (by omega) (by unfold FU; omega) (fun q hq => absurd hq (Nat.not_lt_zero _))
  have hby0 : byR (Ed f t w m 0) e N 0 b1 := by
    refine ⟨fun j x hj hx => ?_, fun q hq hq' => by rw [i2 q hq', if_neg (by omega)]⟩
    have : j = 0 := by omega
    subst this
    rw [show 10 * 0 + x = x by omega, i2 x (by omega)]
    by_cases c : x = e
    · subst c
      rw [if_pos rfl]
      exact Or.inl ⟨0, ⟨rfl, rfl⟩, fun d' h => by rw [h.2]; omega, rfl⟩
    · rw [if_neg c]
      exact Or.inr ⟨fun d h => c h.1, rfl⟩
  obtain ⟨b2, j1, j2⟩ := by_loop hN10 ((gOK.wide hg hLN hN10).inV 0) hN (hg.ten 0) hE hR (show v < N by omega) (show e < N by omega) (by omega) hk0 hmin a3 rm ro rnd K0 0 FU b1 (by omega) (by unfold FU; omega) hby0
  rw [nI_0] at i1 j1
  obtain ⟨O', rnd', q1, q2, q3⟩ := tr_walk2 (R := R) hg hLN hN10 hN hL hE he hv o2 j2 (nI n) a3 ro K0 0 v FU FU O (upd rnd 0 (nI v)) (by omega) (Nat.le_refl _) (by omega) hv hk0 hmin (fun j hj => absurd hj (Nat.not_lt_zero _)) (updS _ _ _) (by unfold FU; omega) (by unfold FU; omega)
  rw [nI_0] at q1
  refine ⟨0 + K0 + 1, O', o, rnd', b2, ?_, ?_, by omega, q3⟩
  · unfold p_X2_trace
    rw [o1, bsome]
    exact q1
  · unfold p_X7_findRound
    rw [i1]
    unfold q_X7_findRound_35
    rw [j1]
    unfold q_X7_findRound_194
    rw [show wr rnd 12 0 (nI v) = some (upd rnd 0 (nI v)) from wr_nI (k := 0) (by omega) (by omega), bsome]
    exact q2
end
def SL (L N m : Nat) (KD k f t w row : Nat → Int32) : Prop := L ≤ N ∧ N ≤ 10 ∧ row 10 = nI m ∧ (∀ i, i < N → row i = KD i) ∧ (∀ i, i < L → k i = row i ∧ 0 ≤ (k i).toInt ∧ (k i).toInt ≤ 3) ∧ (∀ i, i < m → f i = row (11 + i) ∧ t i = row (27 + i) ∧ w i = row (43 + i)) ∧ gOK L m f t w ∧ NPC (Ed f t w m 0)
section
variable {L N m : Nat} {KD Nk Nf Nt Nw now : Nat → Int32} {G : Nat → Nat → Int32}
theorem SL.done (h : SL N N m KD Nk Nf Nt Nw now) : SM N m Nk Nf Nt Nw now := ⟨h.2.2.1, h.2.2.2.2.1, h.2.2.2.2.2.1, h.2.2.2.2.2.2.1, h.2.2.2.2.2.2.2⟩
theorem SL.find (h : SL L N m KD Nk Nf Nt Nw now) (R0 e0 : Nat → Int32) : ∃ R e, p_X7_find (nI N) now R0 e0 = some (R, e) ∧ RcOK (Ed Nf Nt Nw m 0) N R ∧ EdOK (Ed Nf Nt Nw m 0) e := by
  obtain ⟨h1, h2, h3, h4, h5, h6, h7, h8⟩ := h
  have hE : mE now m 0 = Ed Nf Nt Nw m 0 := (Ed_eq (fun i hi => h6 i hi) 0).symm
  have hg : gOK N m (mF now) (mT now) (mW now) := (h7.wide h1 h2).congr (fun i hi => h6 i hi)
  obtain ⟨R, e, g1, g2, g3⟩ := fw_find hg h3 (by rw [hE]; exact h8) R0 e0
  rw [hE] at g2 g3
  exact ⟨R, e, g1, g2, g3⟩
theorem wtC2 {v : Nat} (hv : v < 10) (ek : Nk v = now v) {k : Int32} (h1 : -9 ≤ k.toInt) (h2 : k.toInt ≤ 9) : ∃ wt, p_X4_weightTowards Nk (nI v) k = some wt ∧ (∀ now' : Nat → Int32, now' v = now v → p_X7_weightTo now' k (nI v) = some wt) ∧ -10 ≤ wt.toInt ∧ wt.toInt ≤ 10 := by
  have a1 : (k + 1).toInt = k.toInt + 1 := by rw [tadd (by rw [tlit1]; omega) (by rw [tlit1]; omega), tlit1]
  have a2 : (k - 1).toInt = k.toInt - 1 := by rw [tsub (by rw [tlit1]; omega) (by rw [tlit1]; omega), tlit1]
  unfold p_X4_weightTowards p_X7_weightTo
  rw [rd_nI (by omega) (by omega), bsome, ek]
  by_cases c2 : now v = 2
  · refine ⟨k + 1, by rw [if_pos c2], fun now' hq => ?_, by omega, by omega⟩
    rw [rd_nI (by omega) (by omega), bsome, bsome, hq, if_pos c2]
  · by_cases c3 : now v = 3
    · refine ⟨k - 1, by rw [if_neg c2, if_pos c3], fun now' hq => ?_, by omega, by omega⟩
      rw [rd_nI (by omega) (by omega), bsome, bsome, hq, if_neg c2, if_pos c3]
    · refine ⟨k, by rw [if_neg c2, if_neg c3], fun now' hq => ?_, by omega, by omega⟩
      rw [rd_nI (by omega) (by omega), bsome, bsome, hq, if_neg c2, if_neg c3]
theorem e_may2 (hS : SL L N m KD Nk Nf Nt Nw now) (hL : LG L m Nf Nt Nw G) {u v : Nat} (hu : u < L) (hv : v < L) {k wt : Int32} (hw : p_X7_weightTo now k (nI v) = some wt) (hw1 : -10 ≤ wt.toInt) (hw2 : wt.toInt ≤ 10) (O On rnd bb0 R0 e0 : Nat → Int32) (Os rm ro rf : Int32) :
    (∃ (c : Nat) (O' On' rnd' bb' R ed : Nat → Int32) (over : Int32), c ≤ 10 ∧ p_X1_leads G (nI v) (nI u) = some 1 ∧ ¬ (G v u + wt ≤ 0) ∧ p_X2_trace O On Os Nf Nt Nw (nI L) (nI m) G (nI v) (nI u) = some (O', On', nI c) ∧ p_X7_mayTake (nI N) now rf rm ro rnd R0 e0 bb0 (nI u) k (nI v) = some (0, rf + 1, nI c, over, rnd', R, ed, bb') ∧ RNr c O' rnd' (G v u + wt) over) ∨
    (∃ (R ed : Nat → Int32), (p_X1_leads G (nI v) (nI u) = some 0 ∨ (p_X1_leads G (nI v) (nI u) = some 1 ∧ G v u + wt ≤ 0)) ∧ p_X7_mayTake (nI N) now rf rm ro rnd R0 e0 bb0 (nI u) k (nI v) = some (1, rf, rm, ro, rnd, R, ed, bb0) ∧ ∀ j d, Wk (Ed Nf Nt Nw m 0) j v u d → d + wt.toInt ≤ 0) := by
  obtain ⟨R, ed, g1, g3, g4⟩ := hS.find R0 e0
  obtain ⟨hLN, hN10, h3, h4, h5, h6, hg, hN⟩ := hS
  have hn := hg.1
  have g2 : GM L G R := gm_of hg hN hL (fun x y hx hy => g3 x y (by omega) (by omega))
  unfold p_X7_mayTake p_X7_clashes
  rw [hw, bsome, g1]
  rcases leadsC hn g2 hv hu with ⟨q1, q2, q3, q4⟩ | ⟨q1, b1, b2, q2, q3, q4⟩
  · refine Or.inr ⟨R, ed, Or.inl q2, ?_, fun j d hj => ?_⟩
    · refine bsome.trans ?_
      show (rd R 100 _).bind _ = _
      rw [q3, bsome, q4, bsome, z1, bsome, z1]
    · rcases hL v hv u (by omega) with ⟨d', h1, h2⟩ | ⟨h1, h2⟩
      · have := h1.bd (hg.inV 0) hN (hg.ten 0) hn hv
        rw [q1, tNW] at h2
        omega
      · exact (h1 _ _ hj).elim
  · have hGv : ∃ r, Mx (Ed Nf Nt Nw m 0) v u r ∧ (G v u).toInt = r := by
      rcases hL v hv u (by omega) with h | ⟨-, h2⟩
      · exact h
      · rw [h2] at q1
        rw [← q1, tNW] at b1
        omega
    obtain ⟨r, hm, hr⟩ := hGv
    have es : (G v u + wt).toInt = r + wt.toInt := by rw [tadd (by rw [q1]; omega) (by rw [q1]; omega), hr]
    by_cases c : G v u + wt ≤ 0
    · refine Or.inr ⟨R, ed, Or.inr ⟨q2, c⟩, ?_, fun j d hj => ?_⟩
      · refine bsome.trans ?_
        show (rd R 100 _).bind _ = _
        rw [q3, bsome, q4, bsome, z0, ← q1, if_pos c, bsome, z1]
      · have a1 := hm.2 _ _ hj
        have a2 := tle.mp c
        rw [es, tlit0] at a2
        omega
    · obtain ⟨cc, O', On', rnd', bb', t1, t2, t3, t4⟩ := e_trace2 hg hLN hN10 hN hL g4 g3 hu hv hm O On rnd bb0 Os rm ro wt
      refine Or.inl ⟨cc, O', On', rnd', bb', R, ed, R (10 * v + u) + wt, t3, q2, c, t1, ?_, t3, t4, fun _ => by rw [q1]⟩
      refine bsome.trans ?_
      show (rd R 100 _).bind _ = _
      rw [q3, bsome, q4, bsome, z0, ← q1, if_neg c, bsome, z0, t2]
      refine bsome.trans ?_
      rw [q1]
theorem e_take2 (hS : SL L N m KD Nk Nf Nt Nw now) {u v : Nat} (hu : u < L) (hv : v < L) (hm : m < 16) {k wt : Int32} (hw : ∀ now' : Nat → Int32, now' v = now v → p_X7_weightTo now' k (nI v) = some wt) (hw1 : -10 ≤ wt.toInt) (hw2 : wt.toInt ≤ 10) (hvu : ∀ j d, Wk (Ed Nf Nt Nw m 0) j v u d → d + wt.toInt ≤ 0) (l : Int32) :
    ∃ f' t' w' now' G', p_X4_take Nf Nt Nw (nI m) (nI u) wt (nI v) = some (f', t', w', nI (m + 1)) ∧ p_X7_takeBound now (nI u) k (nI v) = some now' ∧ SL L N (m + 1) KD Nk f' t' w' now' ∧ p_X1_measure f' t' w' (nI L) (nI (m + 1)) G l = some (G', nI L) ∧ LG L (m + 1) f' t' w' G' := by
  obtain ⟨hLN, hN10, h3, h4, h5, h6, hg, hN⟩ := hS
  have hS' : SM L m Nk Nf Nt Nw now := ⟨h3, h5, h6, hg, hN⟩
  obtain ⟨f', t', w', now', G', t1, t2, t3, t4, t5⟩ := e_take (G := G) hS' hu hv hm hw hw1 hw2 hvu l
  refine ⟨f', t', w', now', G', t1, t2, ⟨hLN, hN10, t3.1, fun i hi => ?_, t3.2.1, t3.2.2.1, t3.2.2.2.1, t3.2.2.2.2⟩, t4, t5⟩
  rw [← h4 i hi]
  have hn := hg.1
  unfold p_X7_takeBound at t2
  have e0 : rd now 59 10 = some (nI m) := by rw [show rd now 59 10 = some (now 10) from rd_nI (k := 10) (by omega) (by omega), h3]
  rw [e0, bsome, pl11, wr_nI (by omega) (by omega), bsome, pl27, wr_nI (by omega) (by omega), bsome, hw _ (by rw [updN (by omega), updN (by omega)]), bsome, pl43, wr_nI (by omega) (by omega), bsome] at t2
  rw [show ∀ g : Nat → Int32, rd g 59 10 = some (g 10) from fun g => rd_nI (k := 10) (by omega) (by omega), bsome] at t2
  rw [show ∀ (g : Nat → Int32) x, wr g 59 10 x = some (upd g 10 x) from fun g x => wr_nI (k := 10) (by omega) (by omega), bsome] at t2
  have t2' := Option.some.inj t2
  rw [← t2', updN (by omega), updN (by omega), updN (by omega), updN (by omega)]
def UNw (c : Nat) (p : Nat → Nat) : Prop := c ≤ 8 ∧ (∀ i, i < 8 → p i < 8) ∧ ∀ i j, i < 8 → j < 8 → p i = p j → i = j
theorem rem_weak {c : Nat} {p : Nat → Nat} (h : UNw c p) (k f t w : Nat → Int32) (l b : Int32) (Ek Ef Et Ew : Nat → Nat → Int32) (El Eb : Nat → Int32) : ∃ c' p' Ek' Ef' Et' Ew' El' Eb', p_X6_remember (nI c) k f t w l b p Ek Ef Et Ew El Eb = some (nI c', p', Ek', Ef', Et', Ew', El', Eb') ∧ UNw c' p' := by
  obtain ⟨h1, h2, h3⟩ := h
  unfold p_X6_remember
  have put : ∀ (c : Nat) (p : Nat → Nat), c < 8 → (∀ i, i < 8 → p i < 8) → ∃ Ek' Ef' Et' Ew' El' Eb', q_X6_remember_58 k f t w l b (nI c) p Ek Ef Et Ew El Eb = some (nI (c + 1), p, Ek', Ef', Et', Ew', El', Eb') := fun c p hc hp => by
    have hck : ck 8 (p c) = some (p c) := by unfold ck; rw [if_pos (hp c hc)]
    unfold q_X6_remember_58 p_X4_copy
    rw [ix_nI (by omega) (by omega), bsome, hck, bsome, nI1]
    exact ⟨_, _, _, _, _, _, rfl⟩
  by_cases hc : c = 8
  · subst hc
    have hck : ck 8 (p 0) = some (p 0) := by unfold ck; rw [if_pos (h2 0 (by omega))]
    obtain ⟨p', e5, e6⟩ := rot_loop (Nk := k) (Nf := f) (Nt := t) (Nw := w) (Nl := l) (Nb := b) (n1 := p 0) (ru := nI 8) h2 (Ek := Ek) (Ef := Ef) (Et := Et) (Ew := Ew) (El := El) (Eb := Eb) 7 1 FU p (by omega) (by omega) (by unfold FU; omega) (fun i => by rw [if_neg (by omega)])
    have hp9 : ∀ i, i < 8 → va_up p' 7 (p 0) i = if i + 1 < 8 then p (i + 1) else p 0 := fun i hi => by
      by_cases e : i = 7
      · subst e; rw [va_up_self, if_neg (by omega)]
      · rw [va_up_ne _ _ e, e6 i, if_pos (by omega), if_pos (by omega)]
    have hp8 : ∀ i, i < 8 → va_up p' 7 (p 0) i < 8 := fun i hi => by
      rw [hp9 i hi]
      by_cases e : i + 1 < 8
      · rw [if_pos e]; exact h2 _ e
      · rw [if_neg e]; exact h2 _ (by omega)
    obtain ⟨Ek', Ef', Et', Ew', El', Eb', g1⟩ := put 7 (va_up p' 7 (p 0)) (by omega) hp8
    refine ⟨8, _, Ek', Ef', Et', Ew', El', Eb', ?_, by omega, hp8, fun i j hi hj hij => ?_⟩
    · rw [if_neg (show ¬ nI 8 < 8 by decide), show ix 8 0 = some 0 from ix_nI (k := 0) (by omega) (by omega), bsome, hck, bsome, show (1 : Int32) = nI 1 from rfl, e5]
      unfold q_X6_remember_44
      rw [show ix 8 7 = some 7 from ix_nI (k := 7) (by omega) (by omega), bsome, hck, bsome]
      exact g1
    · rw [hp9 i hi, hp9 j hj] at hij
      by_cases e : i + 1 < 8 <;> by_cases e' : j + 1 < 8
      · rw [if_pos e, if_pos e'] at hij; have := h3 _ _ e e' hij; omega
      · rw [if_pos e, if_neg e'] at hij; have := h3 _ _ e (by omega) hij; omega
      · rw [if_neg e, if_pos e'] at hij; have := h3 _ _ (by omega) e' hij; omega
      · omega
  · obtain ⟨Ek', Ef', Et', Ew', El', Eb', g1⟩ := put c p (by omega) h2
    refine ⟨c + 1, p, Ek', Ef', Et', Ew', El', Eb', ?_, by omega, h2, h3⟩
    rw [if_pos (show nI c < 8 from nI_lt (a := c) (b := 8) (by omega) (by omega))]; exact g1
end
