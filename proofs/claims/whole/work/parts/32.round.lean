/-! the round: how few bounds lead by the greatest length -/
def Lk (E : Nat → Nat → Int → Prop) (e k x : Nat) : Prop := ∃ r, Mx E x e r ∧ Wk E k x e r
def tB (f t w : Nat → Int32) (m e b : Nat) : Prop := ∃ r, Mx (Ed f t w m 0) (t b).toNatClampNeg e r ∧ Mx (Ed f t w m 0) (f b).toNatClampNeg e ((w b).toInt + r)
theorem Mx.tail {E : Nat → Nat → Int → Prop} {x y e k : Nat} {d r : Int} (h : Mx E x e r) (h1 : E x y d) (h2 : Wk E k y e (r - d)) : Mx E y e (r - d) := by
  refine ⟨⟨k, h2⟩, fun j d' hj => ?_⟩
  have := h.2 (j + 1) (d + d') ⟨y, d, h1, by rw [show d + d' - d = d' by omega]; exact hj⟩
  omega
theorem Lk.zero {E : Nat → Nat → Int → Prop} {e x : Nat} (hN : NPC E) : Lk E e 0 x ↔ x = e := by
  refine ⟨fun ⟨r, _, h⟩ => h.1, fun h => ?_⟩
  subst h
  exact ⟨0, Mx.self hN x, rfl, rfl⟩
theorem Lk.succ {E : Nat → Nat → Int → Prop} {e k x : Nat} : Lk E e (k + 1) x ↔ ∃ (y : Nat) (d r : Int), E x y d ∧ Mx E y e r ∧ Mx E x e (d + r) ∧ Wk E k y e r := by
  refine ⟨fun ⟨r, h1, y, d, h2, h3⟩ => ⟨y, d, r - d, h2, h1.tail h2 h3, ?_, h3⟩, fun ⟨y, d, r, h1, h2, h3, h4⟩ => ⟨d + r, h3, y, d, h1, ?_⟩⟩
  · rw [show d + (r - d) = r by omega]; exact h1
  · rw [show d + r - d = r by omega]; exact h4
theorem Lk.ex {E : Nat → Nat → Int → Prop} {n e x : Nat} {r : Int} (hV : InV E n) (hN : NPC E) (hx : x < n) (h : Mx E x e r) : ∃ k, k < n ∧ Lk E e k x := by
  obtain ⟨⟨k, hk⟩, h2⟩ := h
  obtain ⟨k', d', b1, b2, b3⟩ := Wk.short hV hN k x e r hx hk
  have := h2 _ _ b3
  have e : d' = r := by omega
  subst e
  exact ⟨k', b1, d', ⟨⟨k, hk⟩, h2⟩, b3⟩
theorem least_one {P : Nat → Prop} : ∀ K, P K → ∃ k, k ≤ K ∧ P k ∧ ∀ j, j < k → ¬ P j := by
  intro K
  induction K using Nat.strongRecOn with
  | _ K ih =>
    intro h
    by_cases c : ∃ j, j < K ∧ P j
    · obtain ⟨j, c1, c2⟩ := c
      obtain ⟨k, h1, h2, h3⟩ := ih j c1 c2
      exact ⟨k, by omega, h2, h3⟩
    · exact ⟨K, Nat.le_refl _, h, fun j hj q => c ⟨j, hj, q⟩⟩
section
variable {n m : Nat} {f t w : Nat → Int32} {G : Nat → Nat → Int32}
theorem gOK.ed (hg : gOK n m f t w) {b : Nat} (hb : b < m) : Ed f t w m 0 (f b).toNatClampNeg (t b).toNatClampNeg (w b).toInt := ⟨b, hb, bit0 b, rfl, rfl, rfl⟩
theorem onC (hg : gOK n m f t w) (hN : NPC (Ed f t w m 0)) (hL : LG n m f t w G) {b e : Nat} (hb : b < m) (he : e < n) : (tB f t w m e b ∧ p_X2_isOnLongest f t w G (nI b) (nI e) = some 1) ∨ (¬ tB f t w m e b ∧ p_X2_isOnLongest f t w G (nI b) (nI e) = some 0) := by
  have hn := hg.1
  have hm := hg.2.1
  obtain ⟨f1, f2, t1, t2, w1, w2⟩ := hg.at hb
  have i1 : ix 10 (t b) = some (t b).toNatClampNeg := ix_at t1 (by omega) (by omega)
  have i2 : ix 10 (f b) = some (f b).toNatClampNeg := ix_at f1 (by omega) (by omega)
  unfold p_X2_isOnLongest
  rw [rd_nI (f := f) (by omega) (by omega), bsome, rd_nI (f := t) (by omega) (by omega), bsome, i1, bsome, rd_nI (k := e) (by omega) (by omega), bsome, i2, bsome, rd_nI (k := e) (by omega) (by omega), bsome, rd_nI (f := w) (by omega) (by omega), bsome]
  rcases hL _ t2 e (by omega) with ⟨d, h1, h2⟩ | ⟨h1, h2⟩
  · have hd := h1.bd (hg.inV 0) hN (hg.ten 0) hn t2
    rw [if_neg (fun q => by rw [q, tNW] at h2; omega)]
    rcases hL _ f2 e (by omega) with ⟨r, h3, h4⟩ | ⟨h3, -⟩
    · have hr := h3.bd (hg.inV 0) hN (hg.ten 0) hn f2
      have ea : (w b + G (t b).toNatClampNeg e).toInt = (w b).toInt + d := by rw [tadd (by omega) (by omega), h2]
      by_cases c : G (f b).toNatClampNeg e = w b + G (t b).toNatClampNeg e
      · rw [if_pos c]
        refine Or.inl ⟨⟨d, h1, ?_⟩, rfl⟩
        have := teq.mp c
        rw [show (w b).toInt + d = r by omega]
        exact h3
      · rw [if_neg c]
        refine Or.inr ⟨fun ⟨r', g1, g2⟩ => c (teq.mpr ?_), rfl⟩
        have := g1.uniq h1
        have := g2.uniq h3
        omega
    · obtain ⟨⟨j, hj⟩, -⟩ := h1
      exact (h3 (j + 1) ((w b).toInt + d) ⟨_, _, hg.ed hb, by rw [show (w b).toInt + d - (w b).toInt = d by omega]; exact hj⟩).elim
  · rw [if_pos h2]
    exact Or.inr ⟨fun ⟨r', g1, g2⟩ => g1.not h1, rfl⟩
def cfS (E : Nat → Nat → Int → Prop) (e : Nat) (o : Nat → Int32) : Prop := ∀ x, x < 10 → ∃ k, k ≤ 10 ∧ o x = nI k ∧ (k = 10 ∨ Lk E e k x)
theorem cf_turn (hg : gOK n m f t w) (hN : NPC (Ed f t w m 0)) (hL : LG n m f t w G) {e : Nat} (he : e < n) (l : Int32) (k19 : Int32 → (Nat → Int32) → Option (Nat → Int32)) (v4 : Int32) (o0 : Nat → Int32) : ∀ (r b fuel : Nat) (o : Nat → Int32), b + r = m → r < fuel → cfS (Ed f t w m 0) e o → (∀ x, x < 10 → (o x).toInt ≤ (o0 x).toInt) → (∀ b', b' < b → tB f t w m e b' → (o (f b').toNatClampNeg).toInt ≤ (o0 (t b').toNatClampNeg).toInt + 1) → ∃ o', q_X2_countFewest_31 f t w l (nI m) G (nI e) k19 fuel (nI b) v4 o = k19 (v4 + 1) o' ∧ cfS (Ed f t w m 0) e o' ∧ (∀ x, x < 10 → (o' x).toInt ≤ (o0 x).toInt) ∧ (∀ b', b' < m → tB f t w m e b' → (o' (f b').toNatClampNeg).toInt ≤ (o0 (t b').toNatClampNeg).toInt + 1)
  | r, b, 0, o, _, hf, _, _, _ => absurd hf (Nat.not_lt_zero _)
  | 0, b, fuel + 1, o, hb, _, h1, h2, h3 => by
    have hm := hg.2.1
    rw [q_X2_countFewest_31.eq_2, if_pos ((nIle (by omega) (by omega)).mpr (by omega))]
    exact ⟨o, rfl, h1, h2, fun b' hb' => h3 b' (by omega)⟩
  | r + 1, b, fuel + 1, o, hb, hf, h1, h2, h3 => by
    have hm := hg.2.1
    have hn := hg.1
    rw [q_X2_countFewest_31.eq_2, if_neg (nI_ge (a := b) (b := m) (by omega) (by omega)), nI1]
    rcases onC hg hN hL (b := b) (by omega) he with ⟨c1, c2⟩ | ⟨c1, c2⟩
    · obtain ⟨f1, f2, t1, t2, w1, w2⟩ := hg.at (b := b) (by omega)
      obtain ⟨kx, x1, x2, x3⟩ := h1 (f b).toNatClampNeg (by omega)
      obtain ⟨ky, y1, y2, y3⟩ := h1 (t b).toNatClampNeg (by omega)
      have r1 : rd o 10 (f b) = some (nI kx) := by rw [rd_at f1 (by omega) (by omega), x2]
      have r2 : rd o 10 (t b) = some (nI ky) := by rw [rd_at t1 (by omega) (by omega), y2]
      have r3 : ∀ z, wr o 10 (f b) z = some (upd o (f b).toNatClampNeg z) := fun z => wr_at f1 (by omega) (by omega)
      have oy := h2 (t b).toNatClampNeg (by omega)
      rw [y2, tnI (by omega)] at oy
      have ox := h2 (f b).toNatClampNeg (by omega)
      rw [x2, tnI (by omega)] at ox
      rw [c2, bsome, z0, rd_nI (f := f) (by omega) (by omega), bsome, r1, bsome, rd_nI (f := t) (by omega) (by omega), bsome, r2, bsome, r3, bsome, nI1]
      have key : ∃ kz, kz ≤ 10 ∧ (if nI (ky + 1) < nI kx then nI (ky + 1) else nI kx) = nI kz ∧ (kz = 10 ∨ Lk (Ed f t w m 0) e kz (f b).toNatClampNeg) ∧ kz ≤ ky + 1 ∧ kz ≤ kx := by
        by_cases c : ky + 1 < kx
        · rw [if_pos (nI_lt (a := ky + 1) (b := kx) (by omega) (by omega))]
          refine ⟨ky + 1, by omega, rfl, Or.inr ?_, Nat.le_refl _, by omega⟩
          rcases y3 with y3 | ⟨r', q1, q2⟩
          · omega
          · obtain ⟨d, g1, g2⟩ := c1
            have := q1.uniq g1
            subst this
            exact Lk.succ.mpr ⟨_, _, r', hg.ed (by omega), q1, g2, q2⟩
        · rw [if_neg (fun q => c ((nIlt (by omega) (by omega)).mp q))]
          exact ⟨kx, x1, rfl, x3, by omega, Nat.le_refl _⟩
      obtain ⟨kz, z1', z2', z3', z4', z5'⟩ := key
      rw [z2']
      have tz := tnI (show kz < 2147483648 by omega)
      refine cf_turn hg hN hL he l k19 v4 o0 r (b + 1) fuel _ (by omega) (by omega) (fun x hx => ?_) (fun x hx => ?_) (fun b' hb' ht => ?_)
      · by_cases c : x = (f b).toNatClampNeg
        · subst c; rw [updS]; exact ⟨kz, z1', rfl, z3'⟩
        · rw [updN c]; exact h1 x hx
      · by_cases c : x = (f b).toNatClampNeg
        · subst c; rw [updS]; omega
        · rw [updN c]; exact h2 x hx
      · by_cases c : b' = b
        · subst c; rw [updS]; omega
        · have h4 := h3 b' (by omega) ht
          by_cases c : (f b').toNatClampNeg = (f b).toNatClampNeg
          · rw [c, updS]
            rw [c, x2, tnI (by omega)] at h4
            omega
          · rw [updN c]; exact h4
    · rw [c2, bsome, z1]
      exact cf_turn hg hN hL he l k19 v4 o0 r (b + 1) fuel o (by omega) (by omega) h1 h2 (fun b' hb' ht => by
        by_cases c : b' = b
        · subst c; exact (c1 ht).elim
        · exact h3 b' (by omega) ht)
theorem cf_loop (hg : gOK n m f t w) (hN : NPC (Ed f t w m 0)) (hL : LG n m f t w G) {e : Nat} (he : e < n) : ∀ (r T fuel : Nat) (o : Nat → Int32), T + r = n → r < fuel → cfS (Ed f t w m 0) e o → (∀ k x, k ≤ T → x < n → Lk (Ed f t w m 0) e k x → (o x).toInt ≤ k) → ∃ o', q_X2_countFewest_19 f t w (nI n) (nI m) G (nI e) fuel (nI T) o = some o' ∧ cfS (Ed f t w m 0) e o' ∧ (∀ k x, k ≤ n → x < n → Lk (Ed f t w m 0) e k x → (o' x).toInt ≤ k)
  | r, T, 0, o, _, hf, _, _ => absurd hf (Nat.not_lt_zero _)
  | 0, T, fuel + 1, o, hT, _, h1, h2 => by
    have hn := hg.1
    rw [q_X2_countFewest_19.eq_2, if_pos ((nIle (by omega) (by omega)).mpr (by omega))]
    exact ⟨o, rfl, h1, fun k x hk hx h => h2 k x (by omega) hx h⟩
  | r + 1, T, fuel + 1, o, hT, hf, h1, h2 => by
    have hn := hg.1
    have hm := hg.2.1
    rw [q_X2_countFewest_19.eq_2, if_neg (nI_ge (a := T) (b := n) (by omega) (by omega))]
    obtain ⟨o', g1, g2, g3, g4⟩ := cf_turn hg hN hL he (nI n) (q_X2_countFewest_19 f t w (nI n) (nI m) G (nI e) fuel) (nI T) o m 0 FU o (by omega) (by unfold FU; omega) h1 (fun x hx => Int.le_refl _) (fun b' hb' => absurd hb' (Nat.not_lt_zero _))
    rw [nI_0] at g1
    rw [g1, nI1]
    refine cf_loop hg hN hL he r (T + 1) fuel o' (by omega) (by omega) g2 (fun k x hk hx h => ?_)
    cases k with
    | zero =>
      have := h2 0 x (by omega) hx h
      have := g3 x (by omega)
      omega
    | succ k =>
      obtain ⟨y, d, r', q1, q2, q3, q4⟩ := Lk.succ.mp h
      have hy := ((hg.inV 0) _ _ _ q1).2
      obtain ⟨b, b1, b2, b3, b4, b5⟩ := q1
      subst b3 b4 b5
      have := g4 b b1 ⟨r', q2, q3⟩
      have := h2 k _ (by omega) hy ⟨r', q2, q4⟩
      omega
def FWd (E : Nat → Nat → Int → Prop) (e n : Nat) (o : Nat → Int32) : Prop := (∀ x k, x < n → k < n → Lk E e k x → (∀ j, j < k → ¬ Lk E e j x) → o x = nI k) ∧ (∀ x k, x < n → k < 10 → o x = nI k → Lk E e k x)
theorem cf_ok (hg : gOK n m f t w) (hN : NPC (Ed f t w m 0)) (hL : LG n m f t w G) {e : Nat} (he : e < n) (O : Nat → Int32) : ∃ o, p_X2_countFewest O f t w (nI n) (nI m) G (nI e) = some o ∧ FWd (Ed f t w m 0) e n o := by
  have hn := hg.1
  obtain ⟨o1, a1, a2⟩ := fill_ok O 10
  unfold p_X2_countFewest
  rw [a1, bsome, wr_nI (by omega) (by omega), bsome]
  obtain ⟨o', g1, g2, g3⟩ := cf_loop hg hN hL he n 0 FU (upd o1 e 0) (by omega) (by unfold FU; omega) (fun x hx => by
    by_cases c : x = e
    · subst c; rw [updS]; exact ⟨0, by omega, rfl, Or.inr ((Lk.zero hN).mpr rfl)⟩
    · rw [updN c, a2 x hx]; exact ⟨10, by omega, rfl, Or.inl rfl⟩) (fun k x hk hx h => by
    have hk0 : k = 0 := by omega
    subst hk0
    have := (Lk.zero hN).mp h
    subst this
    rw [updS]; decide)
  rw [nI_0] at g1
  refine ⟨o', g1, fun x k hx hk h1 h2 => ?_, fun x k hx hk h1 => ?_⟩
  · obtain ⟨k', b1, b2, b3⟩ := g2 x (by omega)
    have b4 := g3 k x (by omega) hx h1
    rw [b2, tnI (by omega)] at b4
    rcases b3 with b3 | b3
    · omega
    · by_cases c : k' < k
      · exact (h2 k' c b3).elim
      · rw [b2, show k' = k by omega]
  · obtain ⟨k', b1, b2, b3⟩ := g2 x (by omega)
    have : k' = k := (nI_inj (by omega) (by omega)).mp (b2.symm.trans h1)
    subst this
    rcases b3 with b3 | b3
    · omega
    · exact b3
/-- the lowest level by which the way goes on -/
def Nx (f t w : Nat → Int32) (m e x k y : Nat) : Prop := ∃ b, b < m ∧ (f b).toNatClampNeg = x ∧ (t b).toNatClampNeg = y ∧ tB f t w m e b ∧ Lk (Ed f t w m 0) e k y
theorem nx_loop (hg : gOK n m f t w) (hN : NPC (Ed f t w m 0)) (hL : LG n m f t w G) {e x k y0 : Nat} (he : e < n) (hx : x < n) (hk : k + 1 < n) {o : Nat → Int32} (hF : FWd (Ed f t w m 0) e n o) (hox : o x = nI (k + 1)) (hmin : ∀ j, j < k + 1 → ¬ Lk (Ed f t w m 0) e j x) (h0 : Nx f t w m e x k y0) (hl : ∀ y, y < y0 → ¬ Nx f t w m e x k y) : ∀ (r b fuel : Nat) (v : Int32), b + r = m → r < fuel → ((v = -4 ∧ ∀ b', b' < b → ¬ ((f b').toNatClampNeg = x ∧ (t b').toNatClampNeg = y0 ∧ tB f t w m e b')) ∨ ∃ y, v = nI y ∧ y < n ∧ Nx f t w m e x k y ∧ ∀ b', b' < b → (f b').toNatClampNeg = x ∧ (t b').toNatClampNeg = y0 ∧ tB f t w m e b' → y = y0) → q_X2_nextLevel_7 o f t w (nI m) G (nI x) (nI e) fuel (nI b) v = some (nI y0)
  | r, b, 0, v, _, hf, _ => absurd hf (Nat.not_lt_zero _)
  | 0, b, fuel + 1, v, hb, _, h => by
    have hm := hg.2.1
    have hn := hg.1
    rw [q_X2_nextLevel_7.eq_2, if_pos ((nIle (by omega) (by omega)).mpr (by omega))]
    obtain ⟨b0, c1, c2, c3, c4, c5⟩ := h0
    rcases h with ⟨-, h⟩ | ⟨y, h1, h2, h3, h4⟩
    · exact (h b0 (by omega) ⟨c2, c3, c4⟩).elim
    · rw [h1, h4 b0 (by omega) ⟨c2, c3, c4⟩]
  | r + 1, b, fuel + 1, v, hb, hf, h => by
    have hm := hg.2.1
    have hn := hg.1
    obtain ⟨f1, f2, t1, t2, w1, w2⟩ := hg.at (b := b) (by omega)
    have go := fun v => nx_loop hg hN hL he hx hk hF hox hmin h0 hl r (b + 1) fuel v (by omega) (by omega)
    -- a bound that doesn't go this way
    have pass : ¬ ((f b).toNatClampNeg = x ∧ (t b).toNatClampNeg = y0 ∧ tB f t w m e b) → q_X2_nextLevel_7 o f t w (nI m) G (nI x) (nI e) fuel (nI (b + 1)) v = some (nI y0) := fun q => go v (by
      rcases h with ⟨h1, h2⟩ | ⟨y, h1, h2, h3, h4⟩
      · refine Or.inl ⟨h1, fun b' hb' => ?_⟩
        by_cases c : b' = b
        · subst c; exact q
        · exact h2 b' (by omega)
      · refine Or.inr ⟨y, h1, h2, h3, fun b' hb' => ?_⟩
        by_cases c : b' = b
        · subst c; exact fun g => (q g).elim
        · exact h4 b' (by omega))
    rw [q_X2_nextLevel_7.eq_2, if_neg (nI_ge (a := b) (b := m) (by omega) (by omega)), rd_nI (f := t) (by omega) (by omega), bsome, rd_nI (f := f) (by omega) (by omega), bsome, nI1, rd_at t1 (by omega) (by omega), bsome, rd_nI (f := o) (by omega) (by omega), bsome, hox, nI_pred]
    by_cases cf : f b = nI x
    · have cf' : (f b).toNatClampNeg = x := by rw [cf, clampI (by omega)]
      rw [if_pos cf]
      rcases onC hg hN hL (b := b) (by omega) he with ⟨c1, c2⟩ | ⟨c1, c2⟩
      · by_cases co : o (t b).toNatClampNeg = nI k
        · have hNx : Nx f t w m e x k (t b).toNatClampNeg := ⟨b, by omega, cf', rfl, c1, hF.2 _ k t2 (by omega) co⟩
          have hge : y0 ≤ (t b).toNatClampNeg := Nat.le_of_not_lt fun q => hl _ q hNx
          have keep : ∀ y, y < n → Nx f t w m e x k y → y ≤ (t b).toNatClampNeg → (∀ b', b' < b → (f b').toNatClampNeg = x ∧ (t b').toNatClampNeg = y0 ∧ tB f t w m e b' → y = y0) → q_X2_nextLevel_7 o f t w (nI m) G (nI x) (nI e) fuel (nI (b + 1)) (nI y) = some (nI y0) := fun y g1 g2 g3 g4 => go _ (Or.inr ⟨y, rfl, g1, g2, fun b' hb' hq => by
            by_cases c : b' = b
            · subst c
              have : y0 ≤ y := Nat.le_of_not_lt fun q => hl _ q g2
              omega
            · exact g4 b' (by omega) hq⟩)
          rw [if_pos co, c2, bsome, z0]
          rcases h with ⟨h1, h2⟩ | ⟨y, h1, h2, h3, h4⟩
          · rw [if_pos h1, t1]
            exact keep _ t2 hNx (Nat.le_refl _) (fun b' hb' hq => (h2 b' hb' hq).elim)
          · have ne : ¬ v = -4 := fun q => by
              have := teq.mp (h1.symm.trans q)
              rw [tnI (by omega), show (-4 : Int32).toInt = -4 by decide] at this
              omega
            rw [if_neg ne]
            by_cases cl : y ≤ (t b).toNatClampNeg
            · rw [if_pos (by rw [h1, t1]; exact (nIle (by omega) (by omega)).mpr cl), h1]
              exact keep y h2 h3 cl h4
            · rw [if_neg (fun q => cl (by rw [h1, t1] at q; exact (nIle (by omega) (by omega)).mp q)), t1]
              refine keep _ t2 hNx (Nat.le_refl _) (fun b' hb' hq => ?_)
              have := h4 b' hb' hq
              omega
        · rw [if_neg co]
          refine pass (fun ⟨_, q2, q3⟩ => co ?_)
          -- it would be of so many bounds
          obtain ⟨b0, d1, d2, d3, d4, d5⟩ := h0
          rw [q2]
          refine hF.1 y0 k (by omega) (by omega) d5 (fun j hj hq => ?_)
          obtain ⟨r', q1', q2'⟩ := hq
          obtain ⟨r'', e1, e2⟩ := q3
          rw [q2] at e1
          have := q1'.uniq e1
          subst this
          refine hmin (j + 1) (by omega) (Lk.succ.mpr ⟨y0, (w b).toInt, r', ?_, q1', ?_, q2'⟩)
          · have := hg.ed (b := b) (by omega)
            rw [cf', q2] at this
            exact this
          · rw [cf'] at e2
            exact e2
      · have ps := pass (fun q => c1 q.2.2)
        by_cases co : o (t b).toNatClampNeg = nI k
        · rw [if_pos co, c2, bsome, z1]; exact ps
        · rw [if_neg co]; exact ps
    · rw [if_neg cf]
      exact pass (fun q => cf (by rw [f1, q.1]))
end
