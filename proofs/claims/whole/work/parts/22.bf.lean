/-! the class's search: State.lengthsFrom gives the longest ways -/
theorem isI {x : Int32} {n : Nat} (h0 : 0 ≤ x.toInt) (h : x.toInt < n) : x = nI x.toNatClampNeg ∧ x.toNatClampNeg < n ∧ (x.toNatClampNeg : Int) = x.toInt := by
  have e : (x.toNatClampNeg : Int) = x.toInt := by
    show (x.toInt.toNat : Int) = x.toInt
    omega
  have hr := trange x
  exact ⟨nI_of_toInt e.symm (by omega), by omega, e⟩
theorem fill_q (x : Int32) : ∀ (r i fuel : Nat) (o : Nat → Int32), i + r = 10 → r < fuel → (∀ v, v < i → o v = x) → ∃ o', q_J7_fill_53178_5 x fuel 10 (nI i) o = some o' ∧ ∀ v, v < 10 → o' v = x
  | r, i, 0, o, _, hf, _ => absurd hf (Nat.not_lt_zero _)
  | 0, i, fuel + 1, o, hi, _, ho => by
    rw [q_J7_fill_53178_5.eq_2, if_pos (show (10 : Int32) ≤ nI i from (nIle (a := 10) (by omega) (by omega)).mpr (by omega))]
    exact ⟨o, rfl, fun v hv => ho v (by omega)⟩
  | r + 1, i, fuel + 1, o, hi, hf, ho => by
    rw [q_J7_fill_53178_5.eq_2, if_neg (show ¬ (10 : Int32) ≤ nI i from fun q => absurd ((nIle (a := 10) (by omega) (by omega)).mp q) (by omega)), wr_nI (by omega) (by omega), bsome, nI1]
    refine fill_q x r (i + 1) fuel _ (by omega) (by omega) (fun v hv => ?_)
    by_cases hc : v = i
    · rw [hc, updS]
    · rw [updN hc]; exact ho v (by omega)
theorem fill_ok (Y : Nat → Int32) (x : Int32) : ∃ o, p_J7_fill_53178 Y x = some o ∧ ∀ v, v < 10 → o v = x := by
  unfold p_J7_fill_53178
  exact fill_q x 10 0 FU Y rfl (by unfold FU; omega) (fun v hv => absurd hv (Nat.not_lt_zero v))
/-- the bounds' tables -/
def gOK (n m : Nat) (f t w : Nat → Int32) : Prop := n ≤ 10 ∧ m ≤ 16 ∧ ∀ b, b < m → 0 ≤ (f b).toInt ∧ (f b).toInt < n ∧ 0 ≤ (t b).toInt ∧ (t b).toInt < n ∧ -10 ≤ (w b).toInt ∧ (w b).toInt ≤ 10
def bitB (a : Int32) (b : Nat) : Prop := ¬ ((a >>> (nI b &&& 31)) &&& 1) = 0
def Ed (f t w : Nat → Int32) (m : Nat) (a : Int32) (x y : Nat) (d : Int) : Prop := ∃ b, b < m ∧ ¬ bitB a b ∧ (f b).toNatClampNeg = x ∧ (t b).toNatClampNeg = y ∧ (w b).toInt = d
theorem gOK.at {n m : Nat} {f t w : Nat → Int32} (h : gOK n m f t w) {b : Nat} (hb : b < m) : f b = nI (f b).toNatClampNeg ∧ (f b).toNatClampNeg < n ∧ t b = nI (t b).toNatClampNeg ∧ (t b).toNatClampNeg < n ∧ -10 ≤ (w b).toInt ∧ (w b).toInt ≤ 10 := by
  obtain ⟨h1, h2, h3, h4, h5, h6⟩ := h.2.2 b hb
  obtain ⟨a1, a2, -⟩ := isI h1 h2
  obtain ⟨b1, b2, -⟩ := isI h3 h4
  exact ⟨a1, a2, b1, b2, h5, h6⟩
theorem gOK.inV {n m : Nat} {f t w : Nat → Int32} (h : gOK n m f t w) (a : Int32) : InV (Ed f t w m a) n := by
  rintro x y d ⟨b, hb, -, rfl, rfl, -⟩
  exact ⟨(h.at hb).2.1, (h.at hb).2.2.2.1⟩
theorem gOK.ten {n m : Nat} {f t w : Nat → Int32} (h : gOK n m f t w) (a : Int32) : ∀ x y d, Ed f t w m a x y d → -10 ≤ d ∧ d ≤ 10 := by
  rintro x y d ⟨b, hb, -, -, -, rfl⟩
  exact ⟨(h.at hb).2.2.2.2.1, (h.at hb).2.2.2.2.2⟩
def Row (E : Nat → Nat → Int → Prop) (o : Nat → Int32) (u : Nat) : Prop := ∀ v, v < 10 → (∃ d, Mx E u v d ∧ (o v).toInt = d) ∨ (NoW E u v ∧ o v = -1000000)
/-- what holds of the row all along: a way of that length, small numbers -/
def bS (E : Nat → Nat → Int → Prop) (u : Nat) (s : Nat) (o : Nat → Int32) : Prop := ∀ v, v < 10 → o v = -1000000 ∨ ((∃ k, Wk E k u v (o v).toInt) ∧ -(10 * s : Int) ≤ (o v).toInt ∧ (o v).toInt ≤ 10 * s)
/-- one turn's middle: o0 at its beginning, b bounds done -/
def bM (f t w : Nat → Int32) (a : Int32) (b : Nat) (o0 o : Nat → Int32) (c : Int32) : Prop := (∀ v, v < 10 → (o0 v).toInt ≤ (o v).toInt) ∧ (∀ b', b' < b → ¬ bitB a b' → o0 (f b').toNatClampNeg ≠ -1000000 → (o0 (f b').toNatClampNeg).toInt + (w b').toInt ≤ (o (t b').toNatClampNeg).toInt) ∧ (c = 0 → ∀ v, v < 10 → o v = o0 v) ∧ (c = 0 ∨ c = 1)
theorem bf_len {n m u s : Nat} {f t w o : Nat → Int32} {a : Int32} (hg : gOK n m f t w) {b : Nat} (hb : b < m) (ha : ¬ bitB a b) (hs : s ≤ 200) (ho : bS (Ed f t w m a) u s o) :
    ∃ r o', p_X4_lengthen f t w o (nI b) = some (r, o') ∧ bS (Ed f t w m a) u (s + 1) o' ∧ (∀ v, v < 10 → (o v).toInt ≤ (o' v).toInt) ∧ (o (f b).toNatClampNeg ≠ -1000000 → (o (f b).toNatClampNeg).toInt + (w b).toInt ≤ (o' (t b).toNatClampNeg).toInt) ∧ (r = 0 ∧ o' = o ∨ r = 1) := by
  obtain ⟨h1, h2, h3, h4, h5, h6⟩ := hg.at hb
  have hn := hg.1
  have hm := hg.2.1
  have wide : bS (Ed f t w m a) u (s + 1) o := fun v hv => by
    rcases ho v hv with h | ⟨h, g1, g2⟩
    · exact Or.inl h
    · exact Or.inr ⟨h, by omega, by omega⟩
  unfold p_X4_lengthen
  rw [rd_nI (by omega) (by omega), bsome, rd_at h1 (by omega) (by omega), bsome]
  by_cases c1 : o (f b).toNatClampNeg = -1000000
  · rw [if_pos c1]
    exact ⟨0, o, rfl, wide, fun v hv => Int.le_refl _, fun h => absurd c1 h, Or.inl ⟨rfl, rfl⟩⟩
  · rw [if_neg c1, rd_nI (by omega) (by omega), bsome, rd_nI (by omega) (by omega), bsome, rd_at h3 (by omega) (by omega), bsome]
    obtain ⟨⟨k, hk⟩, g1, g2⟩ := (ho _ (show (f b).toNatClampNeg < 10 by omega)).resolve_left c1
    have hadd : (o (f b).toNatClampNeg + w b).toInt = (o (f b).toNatClampNeg).toInt + (w b).toInt := tadd (by omega) (by omega)
    by_cases c2 : o (t b).toNatClampNeg < o (f b).toNatClampNeg + w b
    · rw [if_pos c2, bsome, bsome, wr_at h3 (by omega) (by omega), bsome]
      have c2' := tlt.mp c2
      refine ⟨1, _, rfl, fun v hv => ?_, fun v hv => ?_, fun _ => ?_, Or.inr rfl⟩
      · by_cases hv2 : v = (t b).toNatClampNeg
        · subst hv2
          rw [updS, hadd]
          exact Or.inr ⟨⟨k + 1, hk.snoc ⟨b, hb, ha, rfl, rfl, rfl⟩⟩, by omega, by omega⟩
        · rw [updN hv2]
          exact wide v hv
      · by_cases hv2 : v = (t b).toNatClampNeg
        · subst hv2
          rw [updS]
          omega
        · rw [updN hv2]
          exact Int.le_refl _
      · rw [updS, hadd]
        exact Int.le_refl _
    · rw [if_neg c2]
      have c2' : ¬ (o (t b).toNatClampNeg).toInt < (o (f b).toNatClampNeg + w b).toInt := fun q => c2 (tlt.mpr q)
      exact ⟨0, o, rfl, wide, fun v hv => Int.le_refl _, fun _ => by omega, Or.inl ⟨rfl, rfl⟩⟩
theorem bf_turn {n m u : Nat} {f t w : Nat → Int32} {a : Int32} (hg : gOK n m f t w) (k16 : Int32 → Int32 → (Nat → Int32) → Option (Nat → Int32)) (a1 v5 : Int32) (o0 : Nat → Int32) (s0 : Nat) (hs0 : s0 ≤ 160) (h0 : bS (Ed f t w m a) u s0 o0) :
    ∀ (r b fuel : Nat) (c : Int32) (o : Nat → Int32), b + r = m → r < fuel → bS (Ed f t w m a) u (s0 + b) o → bM f t w a b o0 o c → ∃ c' o', q_X4_lengthsFrom_36 f t w (nI n) (nI m) a1 a k16 fuel (nI b) c v5 o = k16 (v5 + 1) c' o' ∧ bS (Ed f t w m a) u (s0 + m) o' ∧ bM f t w a m o0 o' c'
  | r, b, 0, c, o, _, hf, _, _ => absurd hf (Nat.not_lt_zero _)
  | 0, b, fuel + 1, c, o, hb, _, h1, h2 => by
    have hm := hg.2.1
    rw [q_X4_lengthsFrom_36.eq_2, if_pos ((nIle (by omega) (by omega)).mpr (by omega))]
    unfold q_X4_lengthsFrom_73
    obtain rfl : b = m := by omega
    exact ⟨c, o, rfl, h1, h2⟩
  | r + 1, b, fuel + 1, c, o, hb, hf, h1, h2 => by
    have hm := hg.2.1
    rw [q_X4_lengthsFrom_36.eq_2, if_neg (fun q => absurd ((nIle (by omega) (by omega)).mp q) (by omega))]
    by_cases ha : bitB a b
    · rw [if_neg ha, nI1]
      refine bf_turn hg k16 a1 v5 o0 s0 hs0 h0 r (b + 1) fuel c o (by omega) (by omega) (fun v hv => ?_) ⟨h2.1, fun b' hb' hx hy => ?_, h2.2.2⟩
      · rcases h1 v hv with h | ⟨h, g1, g2⟩
        · exact Or.inl h
        · exact Or.inr ⟨h, by omega, by omega⟩
      · by_cases e : b' = b
        · subst e; exact absurd ha hx
        · exact h2.2.1 b' (by omega) hx hy
    · rw [if_pos (Classical.not_not.mp ha)]
      obtain ⟨r9, o', e1, e2, e3, e4, e5⟩ := bf_len (u := u) hg (show b < m by omega) ha (show s0 + b ≤ 200 by omega) h1
      rw [e1, bsome]
      have hM : ∀ c9 : Int32, (c9 = 0 → c = 0 ∧ r9 = 0) → (c9 = 0 ∨ c9 = 1) → bM f t w a (b + 1) o0 o' c9 := fun c9 hc9 hc8 => by
        refine ⟨fun v hv => Int.le_trans (h2.1 v hv) (e3 v hv), fun b' hb' hx hy => ?_, fun hc v hv => ?_, hc8⟩
        · by_cases e : b' = b
          · subst e
            have g := hg.at (show b' < m by omega)
            have hq := h2.1 (f b').toNatClampNeg (by have := hg.1; omega)
            have hne : o (f b').toNatClampNeg ≠ -1000000 := fun q => by
              obtain ⟨-, g1, -⟩ := (h0 (f b').toNatClampNeg (by have := hg.1; omega)).resolve_left hy
              rw [q, tNW] at hq
              omega
            have := e4 hne
            omega
          · exact Int.le_trans (h2.2.1 b' (by omega) hx hy) (e3 _ (by have := (hg.at (show b' < m by omega)).2.2.2.1; have := hg.1; omega))
        · obtain ⟨hc1, hr⟩ := hc9 hc
          rcases e5 with ⟨-, e6⟩ | e6
          · rw [e6]; exact h2.2.2.1 hc1 v hv
          · rw [e6] at hr; exact absurd hr (by decide)
      rcases e5 with ⟨e5, e6⟩ | e5
      · subst e5
        show ∃ c' o'', (if (0 : Int32) = 0 then _ else _) = _ ∧ _
        rw [if_pos rfl, nI1]
        exact bf_turn hg k16 a1 v5 o0 s0 hs0 h0 r (b + 1) fuel c o' (by omega) (by omega) e2 (hM c (fun h => ⟨h, rfl⟩) h2.2.2.2)
      · subst e5
        show ∃ c' o'', (if (1 : Int32) = 0 then _ else _) = _ ∧ _
        rw [if_neg (by decide), nI1]
        exact bf_turn hg k16 a1 v5 o0 s0 hs0 h0 r (b + 1) fuel 1 o' (by omega) (by omega) e2 (hM 1 (fun h => absurd h (by decide)) (Or.inr rfl))
/-- all ways of at most T bounds are told -/
def bQ (E : Nat → Nat → Int → Prop) (u T : Nat) (o : Nat → Int32) : Prop := ∀ (k v : Nat) (d : Int), k ≤ T → Wk E k u v d → o v ≠ -1000000 ∧ d ≤ (o v).toInt
theorem bf_row {n m u s : Nat} {f t w o : Nat → Int32} {a : Int32} (ho : bS (Ed f t w m a) u s o) (hq : ∀ (k v : Nat) (d : Int), Wk (Ed f t w m a) k u v d → o v ≠ -1000000 ∧ d ≤ (o v).toInt) : Row (Ed f t w m a) o u := by
  intro v hv
  rcases ho v hv with h | ⟨h, -⟩
  · exact Or.inr ⟨fun k d hk => (hq k v d hk).1 h, h⟩
  · exact Or.inl ⟨_, ⟨h, fun k d hk => (hq k v d hk).2⟩, rfl⟩
theorem bf_loop {n m u : Nat} {f t w : Nat → Int32} {a : Int32} (hg : gOK n m f t w) (hN : NPC (Ed f t w m a)) (hu : u < n) (a1 : Int32) :
    ∀ (r T fuel : Nat) (c : Int32) (o : Nat → Int32), T + r = n → r < fuel → bS (Ed f t w m a) u (16 * T) o → bQ (Ed f t w m a) u T o → (c = 0 → ∀ (k v : Nat) (d : Int), Wk (Ed f t w m a) k u v d → o v ≠ -1000000 ∧ d ≤ (o v).toInt) → (c = 0 ∨ c = 1) → ∃ o', q_X4_lengthsFrom_16 f t w (nI n) (nI m) a1 a fuel (nI T) c o = some o' ∧ Row (Ed f t w m a) o' u
  | r, T, 0, c, o, _, hf, _, _, _, _ => absurd hf (Nat.not_lt_zero _)
  | 0, T, fuel + 1, c, o, hT, _, h1, h2, _, _ => by
    have hn := hg.1
    rw [q_X4_lengthsFrom_16.eq_2, if_pos ((nIle (by omega) (by omega)).mpr (by omega))]
    refine ⟨o, rfl, bf_row (n := n) h1 (fun k v d hk => ?_)⟩
    obtain ⟨k', d', b1, b2, b3⟩ := Wk.short (hg.inV a) hN k u v d hu hk
    obtain ⟨g1, g2⟩ := h2 k' v d' (by omega) b3
    exact ⟨g1, by omega⟩
  | r + 1, T, fuel + 1, c, o, hT, hf, h1, h2, h3, h4 => by
    have hn := hg.1
    have hm := hg.2.1
    rw [q_X4_lengthsFrom_16.eq_2, if_neg (fun q => absurd ((nIle (by omega) (by omega)).mp q) (by omega))]
    rcases h4 with h4 | h4
    · rw [if_pos h4]
      exact ⟨o, rfl, bf_row (n := n) h1 (h3 h4)⟩
    · rw [if_neg (by rw [h4]; decide)]
      have h1' : bS (Ed f t w m a) u (16 * T + 0) o := h1
      obtain ⟨c', o', e1, e2, e3⟩ := bf_turn hg (q_X4_lengthsFrom_16 f t w (nI n) (nI m) a1 a fuel) a1 (nI T) o (16 * T) (by omega) h1 m 0 FU 0 o (by omega) (by unfold FU; omega) h1' ⟨fun v hv => Int.le_refl _, fun b' hb' => absurd hb' (Nat.not_lt_zero b'), fun _ v hv => rfl, Or.inl rfl⟩
      show ∃ o', q_X4_lengthsFrom_36 f t w (nI n) (nI m) a1 a (q_X4_lengthsFrom_16 f t w (nI n) (nI m) a1 a fuel) FU (nI 0) 0 (nI T) o = some o' ∧ _
      rw [e1, nI1]
      have e2' : bS (Ed f t w m a) u (16 * (T + 1)) o' := fun v hv => by
        rcases e2 v hv with h | ⟨h, g1, g2⟩
        · exact Or.inl h
        · exact Or.inr ⟨h, by omega, by omega⟩
      have hV := hg.inV a
      have keep : ∀ v, v < 10 → o v ≠ -1000000 → o' v ≠ -1000000 := fun v hv hne q => by
        have g := e3.1 v hv
        obtain ⟨-, g1, -⟩ := (h1 v hv).resolve_left hne
        rw [q, tNW] at g
        omega
      have wlt : ∀ (k v : Nat) (d : Int), Wk (Ed f t w m a) k u v d → v < 10 := fun k v d hk => by
        cases k with
        | zero => obtain ⟨rfl, -⟩ := hk; omega
        | succ k => obtain ⟨x, e, -, h⟩ := hk.last; have := (hV _ _ _ h).2; omega
      have step : ∀ (k v : Nat) (d : Int), Wk (Ed f t w m a) (k + 1) u v d → (∀ (x : Nat) (e : Int), Wk (Ed f t w m a) k u x e → o x ≠ -1000000 ∧ e ≤ (o x).toInt) → o' v ≠ -1000000 ∧ d ≤ (o' v).toInt := fun k v d hk ih => by
        obtain ⟨x, e, g1, b, hb, hab, rfl, rfl, rfl⟩ := hk.last
        obtain ⟨g2, g3⟩ := ih _ _ g1
        have g4 := e3.2.1 b hb hab g2
        have hlt := (hg.at hb)
        have g5 := (h1 (f b).toNatClampNeg (by omega)).resolve_left g2
        refine ⟨fun q => ?_, by omega⟩
        rw [q, tNW] at g4
        omega
      refine bf_loop hg hN hu a1 r (T + 1) fuel c' o' (by omega) (by omega) e2' (fun k v d hk hw => ?_) (fun hc k => ?_) e3.2.2.2
      · cases k with
        | zero =>
          have hv := wlt _ _ _ hw
          obtain ⟨g1, g2⟩ := h2 0 v d (Nat.zero_le _) hw
          exact ⟨keep v hv g1, Int.le_trans g2 (e3.1 v hv)⟩
        | succ k => exact step k v d hw (fun x e hx => h2 k x e (by omega) hx)
      · have same := e3.2.2.1 hc
        induction k with
        | zero =>
          intro v d hw
          have hv := wlt _ _ _ hw
          obtain ⟨g1, g2⟩ := h2 0 v d (Nat.zero_le _) hw
          exact ⟨keep v hv g1, Int.le_trans g2 (e3.1 v hv)⟩
        | succ k ih =>
          intro v d hw
          refine step k v d hw (fun x e hx => ?_)
          have hxv := wlt _ _ _ hx
          rw [← same x hxv]
          exact ih x e hx
/-- the class's search, whole -/
theorem bf_ok {n m u : Nat} {f t w : Nat → Int32} {a : Int32} (hg : gOK n m f t w) (hN : NPC (Ed f t w m a)) (hu : u < n) (Y : Nat → Int32) : ∃ o, p_X4_lengthsFrom f t w (nI n) (nI m) Y (nI u) a = some o ∧ Row (Ed f t w m a) o u := by
  have hn := hg.1
  obtain ⟨o1, e1, e2⟩ := fill_ok Y (-1000000)
  unfold p_X4_lengthsFrom
  rw [e1, bsome, wr_nI (by omega) (by omega), bsome]
  have hS : bS (Ed f t w m a) u (16 * 0) (upd o1 u 0) := fun v hv => by
    by_cases hc : v = u
    · subst hc
      rw [updS]
      exact Or.inr ⟨⟨0, rfl, rfl⟩, by decide, by decide⟩
    · rw [updN hc]
      exact Or.inl (e2 v hv)
  refine bf_loop hg hN hu (nI u) n 0 FU 1 _ (by omega) (by unfold FU; omega) hS (fun k v d hk hw => ?_) (fun h => absurd h (by decide)) (Or.inr rfl)
  obtain rfl : k = 0 := by omega
  obtain ⟨rfl, rfl⟩ := hw
  rw [updS]
  exact ⟨by decide, by decide⟩
