/-! stands: the class's choice is the reference's -/
section
variable {n m : Nat} {f t w : Nat → Int32} {G : Nat → Nat → Int32}
theorem Vd.lt {many sz : Nat} {c : Nat → Nat} (h : Vd many sz c) {q q' : Nat} (h1 : q < q') (h2 : q' < sz) : c q < c q' := by
  have := h.up q (q' - q) (by omega)
  rw [show q + (q' - q) = q' by omega] at this
  omega
theorem Vd.of {many sz : Nat} {c : Nat → Nat} (h1 : ∀ q, q + 1 < sz → c q < c (q + 1)) (h2 : ∀ q, q < sz → c q < many) : Vd many sz c := by
  refine ⟨h1, ?_⟩
  have : ∀ d q, q + d + 1 = sz → c q + (d + 1) ≤ many := by
    intro d
    induction d with
    | zero => intro q hq; have := h2 q (by omega); omega
    | succ d ih => intro q hq; have := ih (q + 1) (by omega); have := h1 q (by omega); omega
  intro q hq
  have := this (sz - q - 1) q (by omega)
  omega
theorem Vd.less {many sz j : Nat} {c : Nat → Nat} (h : Vd many sz c) (hj : j ≤ sz) : Vd many j c := ⟨fun q hq => h.1 q (by omega), fun q hq => by have := h.2 q (by omega); omega⟩
theorem Vd.in {many sz q : Nat} {c : Nat → Nat} (h : Vd many sz c) (hq : q < sz) : c q < many := by
  have := h.2 q hq
  omega
theorem bool_iff {a b : Bool} (h : a = true ↔ b = true) : a = b := by
  cases a <;> cases b <;> simp at h ⊢
theorem Sc_cnt {many : Nat} {W c : Nat → Nat} (hW : ∀ q q', q < q' → q' < many → W q < W q') (K : Nat) : ∀ sz, Vd many sz c → (∀ q, q < sz → W (c q) < K) → cnt K (Sc W c sz).testBit = sz
  | 0, _, _ => by
    have : Sc W c 0 = 0 := rfl
    rw [this, cnt_congr (g' := fun _ => false) K (fun i _ => Nat.zero_testBit i)]
    have : ∀ K, cnt K (fun _ => false) = 0 := fun K => by
      induction K with
      | zero => rfl
      | succ K ih => show cnt K _ + _ = 0; rw [ih]; rfl
    exact this K
  | sz + 1, hv, hK => by
    have ih := Sc_cnt hW K sz (hv.less (by omega)) (fun q hq => hK q (by omega))
    have := cnt_clear (g := (Sc W c (sz + 1)).testBit) (g' := (Sc W c sz).testBit) (p := W (c sz)) (Sc_bit.mpr ⟨sz, by omega, rfl⟩) (Bool.eq_false_iff.mpr fun q => by
      obtain ⟨j, j1, j2⟩ := Sc_bit.mp q
      have := hW _ _ (hv.lt j1 (by omega)) (hv.in (q := sz) (by omega))
      omega) (fun i hi => bool_iff (by
      rw [Sc_bit, Sc_bit]
      constructor
      · rintro ⟨j, j1, j2⟩; exact ⟨j, by omega, j2⟩
      · rintro ⟨j, j1, j2⟩
        by_cases e : j = sz
        · subst e; exact (hi j2.symm).elim
        · exact ⟨j, by omega, j2⟩)) K (hK sz (by omega))
    omega
theorem Sc_at {many : Nat} {W c : Nat → Nat} (hW : ∀ q q', q < q' → q' < many → W q < W q') {sz j : Nat} (hv : Vd many sz c) (hj : j < sz) : cnt (W (c j)) (Sc W c sz).testBit = j := by
  rw [cnt_congr (g' := (Sc W c j).testBit) (W (c j)) (fun i hi => bool_iff (by
    rw [Sc_bit, Sc_bit]
    constructor
    · rintro ⟨q, q1, q2⟩
      refine ⟨q, ?_, q2⟩
      rcases Nat.lt_trichotomy q j with h | h | h
      · exact h
      · subst h; omega
      · have := hW _ _ (hv.lt h q1) (hv.in q1)
        omega
    · rintro ⟨q, q1, q2⟩; exact ⟨q, by omega, q2⟩))]
  exact Sc_cnt hW _ j (hv.less (by omega)) (fun q hq => hW _ _ (hv.lt hq hj) (hv.in hj))
theorem lx_ah {many : Nat} {W c c' : Nat → Nat} (hW : ∀ q q', q < q' → q' < many → W q < W q') {sz : Nat} (hv : Vd many sz c) (hv' : Vd many sz c') (h : Lx sz c c') : Ah (Sc W c sz) (Sc W c' sz) := by
  obtain ⟨a, a1, a2, a3⟩ := h
  have hca := hW _ _ a3 (hv'.in a1)
  refine ⟨W (c a), fun q hq => bool_iff ?_, Sc_bit.mpr ⟨a, a1, rfl⟩, Bool.eq_false_iff.mpr fun g => ?_⟩
  · rw [Sc_bit, Sc_bit]
    constructor
    · rintro ⟨j, j1, j2⟩
      rcases Nat.lt_trichotomy j a with h | h | h
      · exact ⟨j, j1, by rw [← a2 j h]; exact j2⟩
      · subst h; omega
      · have := hW _ _ (hv.lt h j1) (hv.in j1)
        omega
    · rintro ⟨j, j1, j2⟩
      rcases Nat.lt_trichotomy j a with h | h | h
      · exact ⟨j, j1, by rw [a2 j h]; exact j2⟩
      · subst h; omega
      · have := hW _ _ (hv'.lt h j1) (hv'.in j1)
        omega
  · obtain ⟨j, j1, j2⟩ := Sc_bit.mp g
    rcases Nat.lt_trichotomy j a with h | h | h
    · rw [← a2 j h] at j2
      have := hW _ _ (hv.lt h a1) (hv.in a1)
      omega
    · subst h; omega
    · have := hW _ _ (hv'.lt h j1) (hv'.in j1)
      omega
theorem lx_tri {sz : Nat} (c c' : Nat → Nat) : (∀ q, q < sz → c q = c' q) ∨ Lx sz c c' ∨ Lx sz c' c := by
  by_cases h : ∀ q, q < sz → c q = c' q
  · exact Or.inl h
  · have ex : ∃ q, q < sz ∧ c q ≠ c' q := Classical.byContradiction fun g => h fun q hq => Classical.byContradiction fun e => g ⟨q, hq, e⟩
    obtain ⟨q, q1, q2⟩ := ex
    obtain ⟨a, a1, ⟨a2, a2'⟩, a3⟩ := least_one (P := fun q => q < sz ∧ c q ≠ c' q) q ⟨q1, q2⟩
    have below : ∀ j, j < a → c j = c' j := fun j hj => Classical.byContradiction fun e => a3 j hj ⟨by omega, e⟩
    rcases Nat.lt_trichotomy (c a) (c' a) with h | h | h
    · exact Or.inr (Or.inl ⟨a, a2, below, h⟩)
    · exact (a2' h).elim
    · exact Or.inr (Or.inr ⟨a, a2, fun j hj => (below j hj).symm, h⟩)
theorem iw_of (hg : gOK n m f t w) (hN : NPC (Ed f t w m 0)) (hL : LG n m f t w G) {u v : Nat} (hu : u < n) (hv : v < n) {wt : Int32} (hw1 : -10 ≤ wt.toInt) (hw2 : wt.toInt ≤ 10) {b j k : Nat} {d0 d2 : Int} (b1 : b < m) (h1 : Wk (Ed f t w m 0) j v (f b).toNatClampNeg d0) (h4' : Wk (Ed f t w m 0) k (t b).toNatClampNeg u d2) (h3 : 0 < d0 + (w b).toInt + d2 + wt.toInt) : iw f t w G v u wt b := by
  have hn := hg.1
  obtain ⟨f1, f2, t1, t2, w1, w2⟩ := hg.at b1
  rcases hL v hv (f b).toNatClampNeg (by omega) with ⟨r1, p1, p2⟩ | ⟨p1, -⟩
  · rcases hL (t b).toNatClampNeg t2 u (by omega) with ⟨r2, q1, q2⟩ | ⟨q1, -⟩
    · have k1 := p1.bd (hg.inV 0) hN (hg.ten 0) hn hv
      have k2 := q1.bd (hg.inV 0) hN (hg.ten 0) hn t2
      have k3 := p1.2 _ _ h1
      have k4 := q1.2 _ _ h4'
      have s1 : (G v (f b).toNatClampNeg + w b).toInt = r1 + (w b).toInt := by rw [tadd (by omega) (by omega), p2]
      have s2 : (G v (f b).toNatClampNeg + w b + G (t b).toNatClampNeg u).toInt = r1 + (w b).toInt + r2 := by rw [tadd (by omega) (by omega), s1, q2]
      have s3 : (G v (f b).toNatClampNeg + w b + G (t b).toNatClampNeg u + wt).toInt = r1 + (w b).toInt + r2 + wt.toInt := by rw [tadd (by omega) (by omega), s2]
      refine ⟨fun q => ?_, fun q => ?_, fun q => ?_⟩
      · rw [q, tNW] at p2; omega
      · rw [q, tNW] at q2; omega
      · have := tle.mp q
        rw [s3, tlit0] at this
        omega
    · exact (q1 _ _ h4').elim
  · exact (p1 _ _ h1).elim
/-- only bounds in the way count -/
theorem way_go (hg : gOK n m f t w) (hN : NPC (Ed f t w m 0)) (hL : LG n m f t w G) {u v : Nat} (hu : u < n) (hv : v < n) {wt : Int32} (hw1 : -10 ≤ wt.toInt) (hw2 : wt.toInt ≤ 10) {a a' : Int32} (h : ∀ b, b < m → iw f t w G v u wt b → bitB a' b → bitB a b) : ∀ (k x j : Nat) (d d0 : Int), Wk (Ed f t w m 0) j v x d0 → Wk (Ed f t w m a) k x u d → 0 < d0 + d + wt.toInt → Wk (Ed f t w m a') k x u d := by
  intro k
  induction k with
  | zero =>
    intro x j d d0 _ h2 _
    obtain ⟨g1, g2⟩ := h2
    exact ⟨g1, g2⟩
  | succ k ih =>
    intro x j d d0 h1 h2 h3
    obtain ⟨y, d1, hE1, h4⟩ := h2
    have key : Ed f t w m a' x y d1 ∧ Ed f t w m 0 x y d1 := by
      obtain ⟨b, b1, b2, b3, b4, b5⟩ := id hE1
      refine ⟨⟨b, b1, fun q => b2 (h b b1 ?_ q), b3, b4, b5⟩, Ed_sub _ _ _ hE1⟩
      have h4' : Wk (Ed f t w m 0) k y u (d - d1) := h4.mono Ed_sub
      rw [← b4] at h4'
      rw [← b3] at h1
      exact iw_of hg hN hL hu hv hw1 hw2 b1 h1 h4' (by rw [b5]; omega)
    exact ⟨y, d1, key.1, ih y (j + 1) (d - d1) (d0 + d1) (h1.snoc key.2) h4 (by omega)⟩
theorem st_same (hg : gOK n m f t w) (hN : NPC (Ed f t w m 0)) (hL : LG n m f t w G) {u v : Nat} (hu : u < n) (hv : v < n) {wt : Int32} (hw1 : -10 ≤ wt.toInt) (hw2 : wt.toInt ≤ 10) {A : Nat → Int32} {many : Nat} {W : Nat → Nat} (hW : gi (iw f t w G v u wt) m A many W) {s : Nat} (hs : s < 65536) (hP : sPr f t w m v u wt.toInt s) : ∃ sz c, sz ≤ 3 ∧ Vd many sz c ∧ GS f t w m v u wt.toInt (Sc W c sz) ∧ (Sc W c sz = s ∨ sz < cnt 16 s.testBit) := by
  have hm := hg.2.1
  obtain ⟨w1, w2, w3, w4⟩ := hW
  obtain ⟨l, l1, l2, l3⟩ := cnt_list (fun q => s.testBit (W q)) many
  have hget : ∀ q, q < l.length → l.getD q 0 ∈ l := fun q hq => by
    rw [List.getD_eq_getElem?_getD, List.getElem?_eq_getElem hq]
    exact List.getElem_mem hq
  have hv' : Vd many l.length (fun q => l.getD q 0) := Vd.of (fun q hq => by
    have := List.pairwise_iff_getElem.mp l1 q (q + 1) (by omega) hq (by omega)
    show l.getD q 0 < l.getD (q + 1) 0
    rw [List.getD_eq_getElem?_getD, List.getElem?_eq_getElem (show q < l.length by omega), List.getD_eq_getElem?_getD, List.getElem?_eq_getElem hq]
    exact this) (fun q hq => ((l3 _).mp (hget q hq)).1)
  have hbit : ∀ b, (Sc W (fun q => l.getD q 0) l.length).testBit b = true ↔ ∃ q, q < many ∧ s.testBit (W q) = true ∧ W q = b := fun b => by
    rw [Sc_bit]
    constructor
    · rintro ⟨q, q1, q2⟩
      have := (l3 _).mp (hget q q1)
      exact ⟨_, this.1, this.2, q2⟩
    · rintro ⟨q, q1, q2, q3⟩
      have := (l3 q).mpr ⟨q1, q2⟩
      obtain ⟨j, j1, j2⟩ := List.mem_iff_getElem.mp this
      refine ⟨j, j1, ?_⟩
      show W (l.getD j 0) = b
      rw [List.getD_eq_getElem?_getD, List.getElem?_eq_getElem j1]
      show W l[j] = b
      rw [j2, q3]
  have hsub : ∀ b, (Sc W (fun q => l.getD q 0) l.length).testBit b = true → s.testBit b = true := fun b hb => by
    obtain ⟨q, q1, q2, q3⟩ := (hbit b).mp hb
    rw [← q3]; exact q2
  have hcnt := Sc_cnt w3 16 l.length hv' (fun q hq => by have := (w2 _ (hv'.in hq)).2; omega)
  have hle := cnt_le (g := (Sc W (fun q => l.getD q 0) l.length).testBit) (g' := s.testBit) 16 (fun i _ h => hsub i h)
  have h3 := hP.1
  refine ⟨l.length, fun q => l.getD q 0, by omega, hv', fun k d hk => ?_, ?_⟩
  · refine Classical.byContradiction fun q => ?_
    have := way_go hg hN hL hu hv hw1 hw2 (a := nI (Sc W (fun q => l.getD q 0) l.length)) (a' := nI s) (fun b hb hiw hbb => by
      obtain ⟨q, q1, q2⟩ := (w4 b hb).mp hiw
      have := (bitBN (by omega)).mp hbb
      exact (bitBN (by omega)).mpr ((hbit b).mpr ⟨q, q1, by rw [q2]; exact this, q2⟩)) k v 0 d 0 ⟨rfl, rfl⟩ hk (by omega)
    have := hP.2 k d this
    omega
  · by_cases e : Sc W (fun q => l.getD q 0) l.length = s
    · exact Or.inl e
    · refine Or.inr ?_
      have ex : ∃ i, (Sc W (fun q => l.getD q 0) l.length).testBit i ≠ s.testBit i := Classical.byContradiction fun g => e (Nat.eq_of_testBit_eq fun i => Classical.byContradiction fun gg => g ⟨i, gg⟩)
      obtain ⟨i, hi⟩ := ex
      have hsi : s.testBit i = true := (Bool.eq_false_or_eq_true _).resolve_right fun q => by
        have : (Sc W (fun q => l.getD q 0) l.length).testBit i = false := Bool.eq_false_iff.mpr fun g => by
          have := hsub i g
          rw [q] at this
          exact Bool.noConfusion this
        exact hi (by rw [this, q])
      have hSi : (Sc W (fun q => l.getD q 0) l.length).testBit i = false := Bool.eq_false_iff.mpr fun g => hi (by rw [g, hsi])
      have hi16 : i < 16 := Nat.lt_of_not_le fun q => by
        rw [hi_bit hs q] at hsi
        exact Bool.noConfusion hsi
      have := cnt_lt hSi hsi 16 hi16 (fun j _ h => hsub j h)
      omega
end
section
variable {n m : Nat} {Nk Nf Nt Nw now : Nat → Int32} {G : Nat → Nat → Int32}
theorem e_stands (hS : SM n m Nk Nf Nt Nw now) (hL : LG n m Nf Nt Nw G) (Ai Ap At R0 e0 : Nat → Int32) (Am a1 a2 a3 a4 : Int32) : ∃ r Ai' Ap' At' Am' R e, p_X6_stands Ai Ap At Am Nk Nf Nt Nw (nI n) (nI m) G a1 a2 a3 a4 = some (r, Ai', Ap', At', Am') ∧ p_X7_stands (nI n) now R0 e0 a1 a2 a3 a4 = some (r, R, e) := by
  have hn := hS.n10
  have hm := hS.m16
  have hg := hS.2.2.2.1
  have hN := hS.2.2.2.2
  unfold p_X6_stands p_X7_stands
  have bad : ∃ r Ai' Ap' At' Am' R e, (some ((-1 : Int32), Ai, Ap, At, Am)) = some (r, Ai', Ap', At', Am') ∧ (some ((-1 : Int32), R0, e0)) = some (r, R, e) := ⟨-1, Ai, Ap, At, Am, R0, e0, rfl, rfl⟩
  rcases unlikeC hn a1 a3 with ⟨h1, h2⟩ | ⟨u, v, hu, hv, huv, rfl, rfl, hne, h1, h2, h3⟩
  · rw [h1, bsome, z1]
    rcases h2 with h2 | ⟨h2, h3⟩
    · rw [h2, bsome, z1]; exact bad
    · rw [h2, bsome, z0]
      rcases kC a2 with ⟨k1, k2⟩ | ⟨b1, b2, k1, k2⟩
      · rw [k2, bsome, z1]; exact bad
      · rw [k2, bsome, z0]
        rcases h3 with h3 | ⟨h3, h4⟩
        · rw [h3, bsome, z1]; exact bad
        · rw [h3, bsome, z0, if_pos h4]; exact bad
  · rw [h1, h2, bsome, bsome, z0, z0]
    rcases kC a2 with ⟨k1, k2⟩ | ⟨b1, b2, k1, k2⟩
    · rw [k1, k2, bsome, bsome, z1, z1]; exact bad
    · rw [k1, k2, bsome, bsome, z0, z0, h3, bsome, z0, if_neg hne]
      have tm1 : (-1 : Int32).toInt = -1 := by decide
      have t3 : (3 : Int32).toInt = 3 := by decide
      rcases (ii (x := a4) (L := -1) (H := 2) (a := -1) (b := 2) (by decide) (by decide)).symm with ⟨c1, c2⟩ | ⟨c0, c1, c2⟩
      · rw [c2, bsome, z1]
        by_cases cc : a4 < -1
        · rw [if_pos cc]; exact bad
        · have cc' : ¬ a4.toInt < -1 := fun q => cc (tlt.mpr (by rw [tm1]; exact q))
          rw [if_neg cc, if_neg (fun q => by have := tlt.mp q; omega)]; exact bad
      · rw [c2, bsome, z0, if_neg (fun q => by have := tlt.mp q; omega), if_pos (tlt.mpr (by omega))]
        clear bad
        obtain ⟨wt, w1, w2, w3, w4⟩ := wtC hS hv b1 b2
        rw [w1, bsome, w2 now rfl, bsome]
        -- the reference's search
        obtain ⟨best, R', e', s1, s2⟩ := sm_loop hS hu hv w3 w4 a2 a4 (2 ^ m) 0 FU (-4) R0 e0 (by omega) (by have := p16 m hm; unfold FU; omega) (Or.inl ⟨rfl, fun s hs => absurd hs (Nat.not_lt_zero _)⟩)
        rw [nI_0] at s1
        rw [s1]
        have h16 := p16 m hm
        -- the class's search
        obtain ⟨A, many, W, g1, g2⟩ := ga_loop (G := G) hg hu hv wt m 0 FU Ai 0 (fun q => q) (by omega) (by unfold FU; omega) ⟨Nat.le_refl _, fun q hq => absurd hq (Nat.not_lt_zero _), fun q q' _ hq => absurd hq (Nat.not_lt_zero _), fun b' hb' => absurd hb' (Nat.not_lt_zero _)⟩
        rw [nI_0] at g1
        have hA : ∀ q, q < many → A q = nI (W q) ∧ W q < 16 := fun q hq => ⟨(g2.2.1 q hq).1, by have := (g2.2.1 q hq).2; omega⟩
        have hmany : many ≤ 16 := by have := g2.1; omega
        have hch := ch14 (G := G) hg hN hu hv w3 w4 hmany hA 4 0 FU Ap At (by omega) (by unfold FU; omega) (fun sz' c hsz => absurd hsz (Nat.not_lt_zero _))
        rw [nI_0] at hch
        have hgat : p_X0_choose Ai Ap At Am Nf Nt Nw (nI n) (nI m) G (nI u) wt (nI v) = q_X0_choose_14 Nf Nt Nw (nI n) (nI m) G (nI u) wt (nI v) FU 0 A Ap At (nI many) := by
          unfold p_X0_choose p_X0_gather
          rw [show (0 : Int32) = nI 0 from rfl] at g1 ⊢
          rw [g1]
          rfl
        rw [hgat]
        unfold q_X7_stands_176
        have tm4 : (-4 : Int32).toInt = -4 := by decide
        have nm4 : ∀ x, x < 65536 → ¬ nI x = -4 := fun x hx q => by
          have := teq.mp q
          rw [tnI (by omega), tm4] at this
          omega
        rcases hch with ⟨sz, P', Y', c, q1, q2, q3, ⟨q4, q5, q6⟩, q7⟩ | ⟨P', Y', q1, q2⟩
        · have hcnt := Sc_cnt g2.2.2.1 16 sz q4 (fun q hq => (hA _ (q4.in hq)).2)
          have hlt : Sc W c sz < 2 ^ m := Nat.lt_pow_two_of_testBit _ fun i hi => Bool.eq_false_iff.mpr fun g => by
            obtain ⟨q, j1, j2⟩ := Sc_bit.mp g
            have := (g2.2.1 _ (q4.in j1)).2
            omega
          have hPs : sPr Nf Nt Nw m v u wt.toInt (Sc W c sz) := ⟨by omega, q5⟩
          have hbest : best = nI (Sc W c sz) := by
            rcases s2 with ⟨-, s2⟩ | ⟨s0, p1, p2, p3, p4⟩
            · exact (s2 _ hlt hPs).elim
            · rcases p4 _ hlt hPs with e | e
              · rw [p1, e]
              · obtain ⟨sz2, c2, d1, d2, d3, d4⟩ := st_same hg hN hL hu hv w3 w4 g2 (s := s0) (by omega) p3
                have hge : sz ≤ sz2 := Nat.le_of_not_lt fun q => q7 sz2 c2 q d2 d3
                have hcnt2 := Sc_cnt g2.2.2.1 16 sz2 d2 (fun q hq => (hA _ (d2.in hq)).2)
                have hle2 : sz2 ≤ cnt 16 s0.testBit := by
                  rcases d4 with d4 | d4
                  · rw [← d4, hcnt2]; exact Nat.le_refl _
                  · omega
                rcases e with e | ⟨e1, e2⟩
                · omega
                · have hz : sz2 = sz := by omega
                  subst hz
                  have hs0 : Sc W c2 sz2 = s0 := d4.resolve_right (by omega)
                  rw [← hs0] at e2
                  rcases lx_tri (sz := sz2) c2 c with t1 | t1 | t1
                  · rw [Sc_congr t1] at e2
                    exact e2.irr.elim
                  · exact (q6 c2 d2 t1 d3).elim
                  · exact ((lx_ah g2.2.2.1 q4 d2 t1).trans e2).irr.elim
          rw [q2, hbest, if_neg (nm4 _ (by omega)), ones_ok (by omega), hcnt]
          by_cases ca : a4 = -1
          · refine ⟨nI sz, A, P', Y', nI many, R', e', ?_, ?_⟩
            · refine bsome.trans ?_
              show (if a4 = -1 then _ else _) = _
              rw [if_pos ca]
            · rw [ca, if_neg (by decide), bsome]
          · have ca' : ¬ a4.toInt = -1 := fun q => ca (teq.mpr (by rw [tm1]; exact q))
            obtain ⟨i, i1, i2⟩ : ∃ i, i < 3 ∧ a4 = nI i := ⟨a4.toInt.toNat, by omega, nI_of_toInt (by omega) (by omega)⟩
            subst i2
            rw [if_pos (show (0 : Int32) ≤ nI i from nI_le (a := 0) (b := i) (by omega) (by omega)), bsome]
            by_cases cs : sz ≤ i
            · refine ⟨-4, A, P', Y', nI many, R', e', ?_, ?_⟩
              · refine bsome.trans ?_
                show (if nI i = -1 then _ else if nI sz = -4 then _ else if nI sz ≤ nI i then _ else _) = _
                rw [if_neg ca, if_neg (nm4 _ (by omega)), if_pos ((nIle (by omega) (by omega)).mpr cs)]
              · rw [bsome, if_pos ((nIle (by omega) (by omega)).mpr cs)]
            · obtain ⟨p, p1, p2, p3, p4⟩ := nth_loop (nI (Sc W c sz)) (i := i) (by omega) i 0 (Sc W c sz) FU (by omega) (by unfold FU; omega) (by omega) (by omega)
              rw [nI_0] at p2
              obtain ⟨j, j1, j2⟩ := Sc_bit.mp p3
              have hji := Sc_at g2.2.2.1 q4 j1
              rw [j2, p4] at hji
              subst hji
              refine ⟨nI p, A, P', Y', nI many, R', e', ?_, ?_⟩
              · refine bsome.trans ?_
                show (if nI i = -1 then _ else if nI sz = -4 then _ else if nI sz ≤ nI i then _ else (p_X0_numberOf A P' (nI i)).bind _) = _
                rw [if_neg ca, if_neg (nm4 _ (by omega)), if_neg (fun q => cs ((nIle (by omega) (by omega)).mp q))]
                unfold p_X0_numberOf
                rw [rd_nI (by omega) (by omega), bsome, q3 i j1, rd_nI (by have := q4.in j1; omega) (by omega), bsome, bsome, (hA _ (q4.in j1)).1, j2]
              · rw [bsome, if_neg (fun q => cs ((nIle (by omega) (by omega)).mp q))]
                unfold p_X7_nth
                rw [p2, bsome]
        · have hbest : best = -4 := by
            rcases s2 with ⟨s2, -⟩ | ⟨s0, p1, p2, p3, p4⟩
            · exact s2
            · obtain ⟨sz2, c2, d1, d2, d3, d4⟩ := st_same hg hN hL hu hv w3 w4 g2 (s := s0) (by omega) p3
              exact (q2 sz2 c2 d1 d2 d3).elim
          rw [q1, hbest, if_pos rfl]
          refine ⟨-4, A, P', Y', nI many, R', e', ?_, rfl⟩
          refine bsome.trans ?_
          show (if a4 = -1 then _ else if (-4 : Int32) = -4 then _ else _) = _
          rw [if_pos (rfl : (-4 : Int32) = -4), ite_self]
end
