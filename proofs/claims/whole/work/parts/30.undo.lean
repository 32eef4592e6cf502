/-! what is remembered and kept; rename, undo, keep, back -/
theorem SM.row {n m : Nat} {k f t w row row' : Nat → Int32} (h : SM n m k f t w row) (hr : ∀ q, q < 59 → row' q = row q) : SM n m k f t w row' := by
  have hn := h.n10
  have hm := h.m16
  refine ⟨by rw [hr 10 (by omega)]; exact h.1, fun i hi => ?_, fun i hi => ?_, h.2.2.2⟩
  · rw [hr i (by omega)]; exact h.2.1 i hi
  · rw [hr (11 + i) (by omega), hr (27 + i) (by omega), hr (43 + i) (by omega)]; exact h.2.2.1 i hi
theorem SM.arr {n m : Nat} {k f t w k' f' t' w' row : Nat → Int32} (h : SM n m k f t w row) (hk : ∀ i, i < 10 → k' i = k i) (hf : ∀ i, i < 16 → f' i = f i ∧ t' i = t i ∧ w' i = w i) : SM n m k' f' t' w' row := by
  have hn := h.n10
  have hm := h.m16
  have hc : ∀ i, i < m → f i = f' i ∧ t i = t' i ∧ w i = w' i := fun i hi => by
    obtain ⟨a, b, c⟩ := hf i (by omega)
    exact ⟨a.symm, b.symm, c.symm⟩
  refine ⟨h.1, fun i hi => ?_, fun i hi => ?_, h.2.2.2.1.congr hc, by rw [← Ed_eq hc 0]; exact h.2.2.2.2⟩
  · rw [hk i (by omega)]; exact h.2.1 i hi
  · obtain ⟨a, b, c⟩ := hf i (by omega)
    rw [a, b, c]; exact h.2.2.1 i hi
theorem cpy_in {f g : Nat → Int32} {n i : Nat} (h : i < n) : va_cpy f g 0 0 n i = f i := by
  rw [pk_cpy_in (Nat.zero_le _) (by omega)]
  simp
theorem SM.copied {n m : Nat} {k f t w k' f' t' w' row : Nat → Int32} (h : SM n m k f t w row) : SM n m (va_cpy k k' 0 0 10) (va_cpy f f' 0 0 16) (va_cpy t t' 0 0 16) (va_cpy w w' 0 0 16) row := h.arr (fun i hi => cpy_in hi) (fun i hi => ⟨cpy_in hi, cpy_in hi, cpy_in hi⟩)
def UNr (n c : Nat) (p : Nat → Nat) (Ek Ef Et Ew : Nat → Nat → Int32) (El Eb : Nat → Int32) (before : Nat → Int32) : Prop := c ≤ 8 ∧ (∀ i, i < 8 → p i < 8) ∧ (∀ i j, i < 8 → j < 8 → p i = p j → i = j) ∧ ∀ i, i < c → ∃ mi, El (p i) = nI n ∧ Eb (p i) = nI mi ∧ SM n mi (Ek (p i)) (Ef (p i)) (Et (p i)) (Ew (p i)) (fun q => before (59 * i + q))
def KPr (n c : Nat) (Kk Kf Kt Kw : Nat → Nat → Int32) (Kl Kb : Nat → Int32) (kept : Nat → Int32) : Prop := c ≤ 2 ∧ ∀ i, i < c → ∃ mi, Kl i = nI n ∧ Kb i = nI mi ∧ SM n mi (Kk i) (Kf i) (Kt i) (Kw i) (fun q => kept (59 * i + q))
theorem fif (i q : Nat) : (59 : Int32) * nI i + nI q = nI (59 * i + q) := by
  show nI 59 * nI i + nI q = _
  rw [pk_mul, nI_add]
theorem note_write (now : Nat → Int32) {c : Nat} (hc : c < 8) (b0 : Nat → Int32) : ∀ (r i fuel : Nat) (b : Nat → Int32), i + r = 59 → r < fuel → (∀ q, (59 * c ≤ q ∧ q < 59 * c + i → b q = now (q - 59 * c)) ∧ (¬ (59 * c ≤ q ∧ q < 59 * c + i) → b q = b0 q)) → ∃ b', q_X7_note_51 now fuel (nI i) b (nI c) = some (b', nI (c + 1)) ∧ ∀ q, (59 * c ≤ q ∧ q < 59 * c + 59 → b' q = now (q - 59 * c)) ∧ (¬ (59 * c ≤ q ∧ q < 59 * c + 59) → b' q = b0 q)
  | r, i, 0, b, _, hf, _ => absurd hf (Nat.not_lt_zero _)
  | 0, i, fuel + 1, b, hi, _, h => by
    obtain rfl : i = 59 := by omega
    rw [q_X7_note_51.eq_2, if_pos (show (59 : Int32) ≤ nI 59 by decide)]
    unfold q_X7_note_83
    rw [nI1]
    exact ⟨b, rfl, h⟩
  | r + 1, i, fuel + 1, b, hi, hf, h => by
    rw [q_X7_note_51.eq_2, if_neg (show ¬ (59 : Int32) ≤ nI i from nI_ge (a := i) (b := 59) (by omega) (by omega)), rd_nI (by omega) (by omega), bsome, fif, wr_nI (by omega) (by omega), bsome, nI1]
    refine note_write now hc b0 r (i + 1) fuel _ (by omega) (by omega) (fun q => ⟨fun hq => ?_, fun hq => ?_⟩)
    · by_cases e : q = 59 * c + i
      · subst e; rw [updS, show 59 * c + i - 59 * c = i by omega]
      · rw [updN e]; exact (h q).1 (by omega)
    · rw [updN (by omega)]; exact (h q).2 (by omega)
theorem note_shift (now : Nat → Int32) (b0 : Nat → Int32) : ∀ (r i fuel : Nat) (b : Nat → Int32), i + r = 413 → r < fuel → (∀ q, b q = if q < i then b0 (59 + q) else b0 q) → ∃ b', q_X7_note_11 now fuel (nI i) b (nI 8) = q_X7_note_51 now FU 0 b' (nI 7) ∧ ∀ q, q < 413 → b' q = b0 (59 + q)
  | r, i, 0, b, _, hf, _ => absurd hf (Nat.not_lt_zero _)
  | 0, i, fuel + 1, b, hi, _, h => by
    obtain rfl : i = 413 := by omega
    rw [q_X7_note_11.eq_2, if_pos (show (413 : Int32) ≤ nI 413 by decide)]
    unfold q_X7_note_39
    rw [show nI 8 - 1 = nI 7 from nI_pred 7]
    exact ⟨b, rfl, fun q hq => by rw [h q, if_pos hq]⟩
  | r + 1, i, fuel + 1, b, hi, hf, h => by
    rw [q_X7_note_11.eq_2, if_neg (show ¬ (413 : Int32) ≤ nI i from nI_ge (a := i) (b := 413) (by omega) (by omega)), show (59 : Int32) + nI i = nI (59 + i) from nI_add 59 i, rd_nI (by omega) (by omega), bsome, wr_nI (by omega) (by omega), bsome, nI1]
    refine note_shift now b0 r (i + 1) fuel _ (by omega) (by omega) (fun q => ?_)
    by_cases e : q = i
    · subst e
      rw [updS, h (59 + q), if_neg (by omega), if_pos (by omega)]
    · rw [updN e, h q]
      by_cases hq : q < i
      · rw [if_pos hq, if_pos (by omega)]
      · rw [if_neg hq, if_neg (by omega)]
theorem rot_loop {Nk Nf Nt Nw : Nat → Int32} {Nl Nb : Int32} {n1 : Nat} {ru : Int32} {p0 : Nat → Nat} (hp0 : ∀ i, i < 8 → p0 i < 8) {Ek Ef Et Ew : Nat → Nat → Int32} {El Eb : Nat → Int32} : ∀ (r j fuel : Nat) (p : Nat → Nat), j + r = 8 → 1 ≤ j → r < fuel → (∀ i, p i = if i + 1 < j then p0 (i + 1) else p0 i) → ∃ p', q_X6_remember_18 Nk Nf Nt Nw Nl Nb fuel (nI j) n1 ru p Ek Ef Et Ew El Eb = q_X6_remember_44 Nk Nf Nt Nw Nl Nb n1 ru p' Ek Ef Et Ew El Eb ∧ ∀ i, p' i = if i + 1 < 8 then p0 (i + 1) else p0 i
  | r, j, 0, p, _, _, hf, _ => absurd hf (Nat.not_lt_zero _)
  | 0, j, fuel + 1, p, hj, _, _, h => by
    obtain rfl : j = 8 := by omega
    rw [q_X6_remember_18.eq_2, if_pos (show (8 : Int32) ≤ nI 8 by decide)]
    exact ⟨p, rfl, h⟩
  | r + 1, j, fuel + 1, p, hj, hj1, hf, h => by
    obtain ⟨j, rfl⟩ : ∃ q, j = q + 1 := ⟨j - 1, by omega⟩
    have hck : ck 8 (p (j + 1)) = some (p (j + 1)) := by
      unfold ck
      rw [if_pos]
      rw [h (j + 1), if_neg (by omega)]
      exact hp0 _ (by omega)
    rw [q_X6_remember_18.eq_2, if_neg (show ¬ (8 : Int32) ≤ nI (j + 1) from nI_ge (a := j + 1) (b := 8) (by omega) (by omega)), ix_nI (by omega) (by omega), bsome, hck, bsome, nI_pred, ix_nI (by omega) (by omega), bsome, nI1]
    refine rot_loop hp0 r (j + 1 + 1) fuel _ (by omega) (by omega) (by omega) (fun i => ?_)
    by_cases e : i = j
    · subst e
      rw [va_up_self, h (i + 1), if_neg (by omega), if_pos (by omega)]
    · rw [va_up_ne _ _ e, h i]
      by_cases hq : i + 1 < j + 1
      · rw [if_pos hq, if_pos (by omega)]
      · rw [if_neg hq, if_neg (by omega)]
theorem rem_put {n m c : Nat} {Nk Nf Nt Nw now : Nat → Int32} (hS : SM n m Nk Nf Nt Nw now) {p : Nat → Nat} {Ek Ef Et Ew : Nat → Nat → Int32} {El Eb before before' : Nat → Int32} (hc : c < 8) (h : UNr n c p Ek Ef Et Ew El Eb before) (hb : ∀ q, (59 * c ≤ q ∧ q < 59 * c + 59 → before' q = now (q - 59 * c)) ∧ (¬ (59 * c ≤ q ∧ q < 59 * c + 59) → before' q = before q)) : ∃ Ek' Ef' Et' Ew' El' Eb', q_X6_remember_58 Nk Nf Nt Nw (nI n) (nI m) (nI c) p Ek Ef Et Ew El Eb = some (nI (c + 1), p, Ek', Ef', Et', Ew', El', Eb') ∧ UNr n (c + 1) p Ek' Ef' Et' Ew' El' Eb' before' := by
  obtain ⟨h1, h2, h3, h4⟩ := h
  have hck : ck 8 (p c) = some (p c) := by unfold ck; rw [if_pos (h2 c hc)]
  unfold q_X6_remember_58 p_X4_copy
  rw [ix_nI (by omega) (by omega), bsome, hck, bsome, nI1]
  refine ⟨_, _, _, _, _, _, rfl, by omega, h2, h3, fun i hi => ?_⟩
  by_cases e : i = c
  · subst e
    refine ⟨m, va_up_self _ _ _, va_up_self _ _ _, ?_⟩
    rw [va_up_self, va_up_self, va_up_self, va_up_self]
    exact hS.copied.row (fun q hq => by
      show before' (59 * i + q) = now q
      rw [(hb (59 * i + q)).1 (by omega), show 59 * i + q - 59 * i = q by omega])
  · have hne : p i ≠ p c := fun q => e (h3 i c (by omega) hc q)
    obtain ⟨mi, g1, g2, g3⟩ := h4 i (by omega)
    refine ⟨mi, by rw [va_up_ne _ _ hne]; exact g1, by rw [va_up_ne _ _ hne]; exact g2, ?_⟩
    rw [va_up_ne _ _ hne, va_up_ne _ _ hne, va_up_ne _ _ hne, va_up_ne _ _ hne]
    exact g3.row (fun q hq => (hb (59 * i + q)).2 (by omega))
theorem e_remember {n m c : Nat} {Nk Nf Nt Nw now : Nat → Int32} (hS : SM n m Nk Nf Nt Nw now) {p : Nat → Nat} {Ek Ef Et Ew : Nat → Nat → Int32} {El Eb before : Nat → Int32} (h : UNr n c p Ek Ef Et Ew El Eb before) : ∃ c' p' Ek' Ef' Et' Ew' El' Eb' before', p_X6_remember (nI c) Nk Nf Nt Nw (nI n) (nI m) p Ek Ef Et Ew El Eb = some (nI c', p', Ek', Ef', Et', Ew', El', Eb') ∧ p_X7_note now before (nI c) = some (before', nI c') ∧ UNr n c' p' Ek' Ef' Et' Ew' El' Eb' before' := by
  unfold p_X6_remember p_X7_note
  have h1 := h.1
  by_cases hc : c = 8
  · subst hc
    obtain ⟨-, h2, h3, h4⟩ := h
    have hck : ck 8 (p 0) = some (p 0) := by unfold ck; rw [if_pos (h2 0 (by omega))]
    obtain ⟨b1, e1, e2⟩ := note_shift now before 413 0 FU before rfl (by unfold FU; omega) (fun q => by rw [if_neg (Nat.not_lt_zero q)])
    obtain ⟨b2, e3, e4⟩ := note_write now (c := 7) (by omega) b1 59 0 FU b1 rfl (by unfold FU; omega) (fun q => ⟨fun hq => by omega, fun _ => rfl⟩)
    obtain ⟨p', e5, e6⟩ := rot_loop (Nk := Nk) (Nf := Nf) (Nt := Nt) (Nw := Nw) (Nl := nI n) (Nb := nI m) (n1 := p 0) (ru := nI 8) h2 (Ek := Ek) (Ef := Ef) (Et := Et) (Ew := Ew) (El := El) (Eb := Eb) 7 1 FU p (by omega) (by omega) (by unfold FU; omega) (fun i => by rw [if_neg (by omega)])
    rw [nI_0] at e1 e3
    have hp9 : ∀ i, i < 8 → va_up p' 7 (p 0) i = if i + 1 < 8 then p (i + 1) else p 0 := fun i hi => by
      by_cases e : i = 7
      · subst e; rw [va_up_self, if_neg (by omega)]
      · rw [va_up_ne _ _ e, e6 i, if_pos (by omega), if_pos (by omega)]
    have hU : UNr n 7 (va_up p' 7 (p 0)) Ek Ef Et Ew El Eb b1 := by
      refine ⟨by omega, fun i hi => ?_, fun i j hi hj hij => ?_, fun i hi => ?_⟩
      · rw [hp9 i hi]
        by_cases e : i + 1 < 8
        · rw [if_pos e]; exact h2 _ e
        · rw [if_neg e]; exact h2 _ (by omega)
      · rw [hp9 i hi, hp9 j hj] at hij
        by_cases e : i + 1 < 8 <;> by_cases e' : j + 1 < 8
        · rw [if_pos e, if_pos e'] at hij; have := h3 _ _ e e' hij; omega
        · rw [if_pos e, if_neg e'] at hij; have := h3 _ _ e (by omega) hij; omega
        · rw [if_neg e, if_pos e'] at hij; have := h3 _ _ (by omega) e' hij; omega
        · omega
      · rw [hp9 i (by omega), if_pos (by omega)]
        obtain ⟨mi, g1, g2, g3⟩ := h4 (i + 1) (by omega)
        refine ⟨mi, g1, g2, g3.row (fun q hq => ?_)⟩
        show b1 (59 * i + q) = before (59 * (i + 1) + q)
        rw [e2 (59 * i + q) (by omega), show 59 + (59 * i + q) = 59 * (i + 1) + q by omega]
    obtain ⟨Ek', Ef', Et', Ew', El', Eb', g1, g2⟩ := rem_put hS (by omega) hU (before' := b2) e4
    refine ⟨8, _, Ek', Ef', Et', Ew', El', Eb', b2, ?_, ?_, g2⟩
    · rw [if_neg (show ¬ nI 8 < 8 by decide), show ix 8 0 = some 0 from ix_nI (k := 0) (by omega) (by omega), bsome, hck, bsome, show (1 : Int32) = nI 1 from rfl, e5]
      unfold q_X6_remember_44
      have hck2 : ck 8 (p 0) = some (p 0) := hck
      rw [show ix 8 7 = some 7 from ix_nI (k := 7) (by omega) (by omega), bsome, hck2, bsome]
      exact g1
    · rw [if_pos (show nI 8 = 8 from rfl), e1, e3]
  · obtain ⟨b2, e3, e4⟩ := note_write now (c := c) (by omega) before 59 0 FU before rfl (by unfold FU; omega) (fun q => ⟨fun hq => by omega, fun _ => rfl⟩)
    rw [nI_0] at e3
    obtain ⟨Ek', Ef', Et', Ew', El', Eb', g1, g2⟩ := rem_put hS (show c < 8 by omega) h (before' := b2) e4
    refine ⟨c + 1, p, Ek', Ef', Et', Ew', El', Eb', b2, ?_, ?_, g2⟩
    · rw [if_pos (show nI c < 8 from nI_lt (a := c) (b := 8) (by omega) (by omega))]; exact g1
    · rw [if_neg (show ¬ nI c = 8 from fun q => hc ((nI_inj (b := 8) (by omega) (by omega)).mp q)), e3]
/-- reading a row back -/
theorem undo_read (before : Nat → Int32) {c : Nat} (hc : c < 8) : ∀ (r i fuel : Nat) (now : Nat → Int32), i + r = 59 → r < fuel → (∀ q, q < i → now q = before (59 * c + q)) → ∃ now', q_X7_undo_22 before fuel (nI i) now (nI c) = some (nI c, now', nI c) ∧ ∀ q, q < 59 → now' q = before (59 * c + q)
  | r, i, 0, now, _, hf, _ => absurd hf (Nat.not_lt_zero _)
  | 0, i, fuel + 1, now, hi, _, h => by
    obtain rfl : i = 59 := by omega
    rw [q_X7_undo_22.eq_2, if_pos (show (59 : Int32) ≤ nI 59 by decide)]
    exact ⟨now, rfl, h⟩
  | r + 1, i, fuel + 1, now, hi, hf, h => by
    rw [q_X7_undo_22.eq_2, if_neg (show ¬ (59 : Int32) ≤ nI i from nI_ge (a := i) (b := 59) (by omega) (by omega)), fif, rd_nI (by omega) (by omega), bsome, wr_nI (by omega) (by omega), bsome, nI1]
    refine undo_read before hc r (i + 1) fuel _ (by omega) (by omega) (fun q hq => ?_)
    by_cases e : q = i
    · subst e; rw [updS]
    · rw [updN e]; exact h q (by omega)
theorem back_read (kept : Nat → Int32) {c : Nat} (hc : c < 2) (um : Int32) : ∀ (r i fuel : Nat) (now : Nat → Int32), i + r = 59 → r < fuel → (∀ q, q < i → now q = kept (59 * c + q)) → ∃ now', q_X7_back_22 kept fuel (nI i) now um (nI c) = some (nI c, now', 0, nI c) ∧ ∀ q, q < 59 → now' q = kept (59 * c + q)
  | r, i, 0, now, _, hf, _ => absurd hf (Nat.not_lt_zero _)
  | 0, i, fuel + 1, now, hi, _, h => by
    obtain rfl : i = 59 := by omega
    rw [q_X7_back_22.eq_2, if_pos (show (59 : Int32) ≤ nI 59 by decide)]
    exact ⟨now, rfl, h⟩
  | r + 1, i, fuel + 1, now, hi, hf, h => by
    rw [q_X7_back_22.eq_2, if_neg (show ¬ (59 : Int32) ≤ nI i from nI_ge (a := i) (b := 59) (by omega) (by omega)), fif, rd_nI (by omega) (by omega), bsome, wr_nI (by omega) (by omega), bsome, nI1]
    refine back_read kept hc um r (i + 1) fuel _ (by omega) (by omega) (fun q hq => ?_)
    by_cases e : q = i
    · subst e; rw [updS]
    · rw [updN e]; exact h q (by omega)
theorem keep_write (now : Nat → Int32) {c : Nat} (hc : c < 2) (b0 : Nat → Int32) : ∀ (r i fuel : Nat) (b : Nat → Int32), i + r = 59 → r < fuel → (∀ q, (59 * c ≤ q ∧ q < 59 * c + i → b q = now (q - 59 * c)) ∧ (¬ (59 * c ≤ q ∧ q < 59 * c + i) → b q = b0 q)) → ∃ b', q_X7_keep_13 now fuel (nI i) b (nI c) = some (nI (c + 1), b', nI (c + 1)) ∧ ∀ q, (59 * c ≤ q ∧ q < 59 * c + 59 → b' q = now (q - 59 * c)) ∧ (¬ (59 * c ≤ q ∧ q < 59 * c + 59) → b' q = b0 q)
  | r, i, 0, b, _, hf, _ => absurd hf (Nat.not_lt_zero _)
  | 0, i, fuel + 1, b, hi, _, h => by
    obtain rfl : i = 59 := by omega
    rw [q_X7_keep_13.eq_2, if_pos (show (59 : Int32) ≤ nI 59 by decide)]
    unfold q_X7_keep_45
    rw [nI1]
    exact ⟨b, rfl, h⟩
  | r + 1, i, fuel + 1, b, hi, hf, h => by
    rw [q_X7_keep_13.eq_2, if_neg (show ¬ (59 : Int32) ≤ nI i from nI_ge (a := i) (b := 59) (by omega) (by omega)), rd_nI (by omega) (by omega), bsome, fif, wr_nI (by omega) (by omega), bsome, nI1]
    refine keep_write now hc b0 r (i + 1) fuel _ (by omega) (by omega) (fun q => ⟨fun hq => ?_, fun hq => ?_⟩)
    · by_cases e : q = 59 * c + i
      · subst e; rw [updS, show 59 * c + i - 59 * c = i by omega]
      · rw [updN e]; exact (h q).1 (by omega)
    · rw [updN (by omega)]; exact (h q).2 (by omega)
theorem e_resume {n mi : Nat} {Sk Sf St Sw row Nk Nf Nt Nw : Nat → Int32} (h : SM n mi Sk Sf St Sw row) (Nl Nb : Int32) (G : Nat → Nat → Int32) (l : Int32) : ∃ k' f' t' w' G', p_X6_resume Nk Nf Nt Nw Nl Nb Sk Sf St Sw (nI n) (nI mi) G l = some (k', f', t', w', nI n, nI mi, G', nI n) ∧ SM n mi k' f' t' w' row ∧ LG n mi f' t' w' G' := by
  have hc : SM n mi (va_cpy Sk Nk 0 0 10) (va_cpy Sf Nf 0 0 16) (va_cpy St Nt 0 0 16) (va_cpy Sw Nw 0 0 16) row := h.copied
  obtain ⟨G', g1, g2⟩ := ms_ok hc.2.2.2.1 hc.2.2.2.2 G l
  refine ⟨_, _, _, _, G', ?_, hc, g2⟩
  unfold p_X6_resume p_X4_copy
  refine bsome.trans ?_
  show (p_X1_measure _ _ _ (nI n) (nI mi) G l).bind _ = _
  rw [g1]
  rfl
section
variable {n m : Nat} {Nk Nf Nt Nw now : Nat → Int32} {G : Nat → Nat → Int32}
theorem e_undo (hS : SM n m Nk Nf Nt Nw now) (hL : LG n m Nf Nt Nw G) {c : Nat} {p : Nat → Nat} {Ek Ef Et Ew : Nat → Nat → Int32} {El Eb before : Nat → Int32} (h : UNr n c p Ek Ef Et Ew El Eb before) : ∃ r c' m' k' f' t' w' G' now', p_X6_undo (nI c) Nk Nf Nt Nw (nI n) (nI m) p Ek Ef Et Ew El Eb G (nI n) = some (r, nI c', k', f', t', w', nI n, nI m', G', nI n) ∧ p_X7_undo now before (nI c) = some (r, now', nI c') ∧ SM n m' k' f' t' w' now' ∧ LG n m' f' t' w' G' ∧ UNr n c' p Ek Ef Et Ew El Eb before := by
  obtain ⟨h1, h2, h3, h4⟩ := h
  unfold p_X6_undo p_X7_undo
  by_cases hc : c = 0
  · subst hc
    rw [if_neg (show ¬ (0 : Int32) < nI 0 by decide), if_pos (show nI 0 = 0 from rfl)]
    exact ⟨-2, 0, m, Nk, Nf, Nt, Nw, G, now, rfl, rfl, hS, hL, h1, h2, h3, h4⟩
  · obtain ⟨c, rfl⟩ : ∃ q, c = q + 1 := ⟨c - 1, by omega⟩
    have hck : ck 8 (p c) = some (p c) := by unfold ck; rw [if_pos (h2 c (by omega))]
    obtain ⟨mi, g1, g2, g3⟩ := h4 c (by omega)
    obtain ⟨k', f', t', w', G', e1, e2, e3⟩ := e_resume (Nk := Nk) (Nf := Nf) (Nt := Nt) (Nw := Nw) g3 (nI n) (nI m) G (nI n)
    obtain ⟨now', e4, e5⟩ := undo_read before (show c < 8 by omega) 59 0 FU now rfl (by unfold FU; omega) (fun q hq => absurd hq (Nat.not_lt_zero q))
    rw [nI_0] at e4
    refine ⟨nI c, c, mi, k', f', t', w', G', now', ?_, ?_, e2.row e5, e3, by omega, h2, h3, fun i hi => h4 i (by omega)⟩
    · rw [if_pos (show (0 : Int32) < nI (c + 1) from nI_lt (a := 0) (b := c + 1) (by omega) (by omega)), nI_pred, ix_nI (by omega) (by omega), bsome, hck, bsome, g1, g2, e1]
      rfl
    · rw [if_neg (nI_ne0 (by omega) (by omega)), nI_pred, e4]
theorem e_keep (hS : SM n m Nk Nf Nt Nw now) {c : Nat} {Kk Kf Kt Kw : Nat → Nat → Int32} {Kl Kb kept : Nat → Int32} (h : KPr n c Kk Kf Kt Kw Kl Kb kept) : ∃ r c' Kk' Kf' Kt' Kw' Kl' Kb' kept', p_X6_keep (nI c) Nk Nf Nt Nw (nI n) (nI m) Kk Kf Kt Kw Kl Kb = some (r, nI c', Kk', Kf', Kt', Kw', Kl', Kb') ∧ p_X7_keep now kept (nI c) = some (r, kept', nI c') ∧ KPr n c' Kk' Kf' Kt' Kw' Kl' Kb' kept' := by
  obtain ⟨h1, h2⟩ := h
  unfold p_X6_keep p_X7_keep p_X4_copy
  by_cases hc : c = 2
  · subst hc
    rw [if_neg (show ¬ nI 2 < 2 by decide), if_pos (show nI 2 = 2 from rfl)]
    exact ⟨-3, 2, _, _, _, _, _, _, kept, rfl, rfl, h1, h2⟩
  · obtain ⟨b, e1, e2⟩ := keep_write now (c := c) (by omega) kept 59 0 FU kept rfl (by unfold FU; omega) (fun q => ⟨fun hq => by omega, fun _ => rfl⟩)
    rw [nI_0] at e1
    rw [if_pos (show nI c < 2 from nI_lt (a := c) (b := 2) (by omega) (by omega)), if_neg (show ¬ nI c = 2 from fun q => hc ((nI_inj (b := 2) (by omega) (by omega)).mp q)), ix_nI (by omega) (by omega), bsome, nI1, e1]
    refine ⟨nI (c + 1), c + 1, _, _, _, _, _, _, b, rfl, rfl, by omega, fun i hi => ?_⟩
    by_cases e : i = c
    · subst e
      refine ⟨m, va_up_self _ _ _, va_up_self _ _ _, ?_⟩
      rw [va_up_self, va_up_self, va_up_self, va_up_self]
      exact hS.copied.row (fun q hq => by
        show b (59 * i + q) = now q
        rw [(e2 (59 * i + q)).1 (by omega), show 59 * i + q - 59 * i = q by omega])
    · obtain ⟨mi, g1, g2, g3⟩ := h2 i (by omega)
      refine ⟨mi, by rw [va_up_ne _ _ e]; exact g1, by rw [va_up_ne _ _ e]; exact g2, ?_⟩
      rw [va_up_ne _ _ e, va_up_ne _ _ e, va_up_ne _ _ e, va_up_ne _ _ e]
      exact g3.row (fun q hq => (e2 (59 * i + q)).2 (by omega))
theorem e_back (hS : SM n m Nk Nf Nt Nw now) (hL : LG n m Nf Nt Nw G) {c : Nat} {Kk Kf Kt Kw : Nat → Nat → Int32} {Kl Kb kept : Nat → Int32} (h : KPr n c Kk Kf Kt Kw Kl Kb kept) (ru : Int32) : ∃ r ru' c' m' k' f' t' w' G' now', p_X6_back ru (nI c) Nk Nf Nt Nw (nI n) (nI m) Kk Kf Kt Kw Kl Kb G (nI n) = some (r, ru', nI c', k', f', t', w', nI n, nI m', G', nI n) ∧ p_X7_back now ru kept (nI c) = some (r, now', ru', nI c') ∧ SM n m' k' f' t' w' now' ∧ LG n m' f' t' w' G' ∧ KPr n c' Kk Kf Kt Kw Kl Kb kept ∧ (ru' = ru ∨ ru' = nI 0) := by
  obtain ⟨h1, h2⟩ := h
  unfold p_X6_back p_X7_back
  by_cases hc : c = 0
  · subst hc
    rw [if_neg (show ¬ (0 : Int32) < nI 0 by decide), if_pos (show nI 0 = 0 from rfl)]
    exact ⟨-2, ru, 0, m, Nk, Nf, Nt, Nw, G, now, rfl, rfl, hS, hL, ⟨h1, h2⟩, Or.inl rfl⟩
  · obtain ⟨c, rfl⟩ : ∃ q, c = q + 1 := ⟨c - 1, by omega⟩
    obtain ⟨mi, g1, g2, g3⟩ := h2 c (by omega)
    obtain ⟨k', f', t', w', G', e1, e2, e3⟩ := e_resume (Nk := Nk) (Nf := Nf) (Nt := Nt) (Nw := Nw) g3 (nI n) (nI m) G (nI n)
    obtain ⟨now', e4, e5⟩ := back_read kept (show c < 2 by omega) ru 59 0 FU now rfl (by unfold FU; omega) (fun q hq => absurd hq (Nat.not_lt_zero q))
    rw [nI_0] at e4
    refine ⟨nI c, 0, c, mi, k', f', t', w', G', now', ?_, ?_, e2.row e5, e3, ⟨by omega, fun i hi => h2 i (by omega)⟩, Or.inr rfl⟩
    · rw [if_pos (show (0 : Int32) < nI (c + 1) from nI_lt (a := 0) (b := c + 1) (by omega) (by omega)), nI_pred, ix_nI (by omega) (by omega), bsome, g1, g2, e1]
      rfl
    · rw [if_neg (nI_ne0 (by omega) (by omega)), nI_pred, e4]
theorem e_rename (hS : SM n m Nk Nf Nt Nw now) {c : Nat} {p : Nat → Nat} {Ek Ef Et Ew : Nat → Nat → Int32} {El Eb before : Nat → Int32} (h : UNr n c p Ek Ef Et Ew El Eb before) (a b : Int32) : ∃ r c' k' p' Ek' Ef' Et' Ew' El' Eb' now' before', p_X6_rename (nI c) Nk Nf Nt Nw (nI n) (nI m) p Ek Ef Et Ew El Eb a b = some (r, nI c', k', p', Ek', Ef', Et', Ew', El', Eb') ∧ p_X7_rename (nI n) now before (nI c) a b = some (r, now', before', nI c') ∧ SM n m k' Nf Nt Nw now' ∧ UNr n c' p' Ek' Ef' Et' Ew' El' Eb' before' := by
  have hn := hS.n10
  unfold p_X6_rename p_X7_rename
  rcases lvC hn a with ⟨h1, h2⟩ | ⟨u, hu, rfl, h1, h2⟩
  · rw [h1, h2]; exact ⟨-1, c, Nk, p, Ek, Ef, Et, Ew, El, Eb, now, before, rfl, rfl, hS, h⟩
  rw [h1, h2, bsome, bsome, z0, z0]
  rcases (ii (x := b) (L := 0) (H := 3) (a := 0) (b := 3) (by decide) (by decide)).symm with ⟨b1, h4⟩ | ⟨b1, b2, h4⟩
  · rw [h4]
    refine ⟨-1, c, Nk, p, Ek, Ef, Et, Ew, El, Eb, now, before, ?_, rfl, hS, h⟩
    by_cases cc : b < 0
    · rw [if_pos cc]
    · have c' : ¬ b.toInt < 0 := fun q => cc (tlt.mpr q)
      rw [if_neg cc, if_neg (fun q => by have := tle.mp q; rw [show (3 : Int32).toInt = 3 from rfl] at this; omega)]
  rw [h4, bsome, z0, if_neg (fun q => by have := tlt.mp q; rw [tlit0] at this; omega), if_pos (show b ≤ 3 from tle.mpr (by rw [show (3 : Int32).toInt = 3 from rfl]; omega))]
  have e1 : rd Nk 10 (nI u) = some (now u) := by rw [rd_nI (by omega) (by omega), (hS.2.1 u hu).1]
  have e2 : rd now 59 (nI u) = some (now u) := rd_nI (by omega) (by omega)
  rw [e1, e2, bsome, bsome]
  by_cases hb : now u = b
  · rw [if_pos hb, if_pos hb]
    exact ⟨-2, c, Nk, p, Ek, Ef, Et, Ew, El, Eb, now, before, rfl, rfl, hS, h⟩
  · rw [if_neg hb, if_neg hb]
    obtain ⟨c', p', Ek', Ef', Et', Ew', El', Eb', before', g1, g2, g3⟩ := e_remember hS h
    have w1 : wr Nk 10 (nI u) b = some (upd Nk u b) := wr_nI (by omega) (by omega)
    have w2 : wr now 59 (nI u) b = some (upd now u b) := wr_nI (by omega) (by omega)
    have hm := hS.m16
    refine ⟨now u, c', upd Nk u b, p', Ek', Ef', Et', Ew', El', Eb', upd now u b, before', ?_, ?_, ⟨?_, fun i hi => ?_, fun i hi => ?_, hS.2.2.2⟩, g3⟩
    · rw [g1]; exact bsome.trans (by show (wr Nk 10 (nI u) b).bind _ = _; rw [w1]; rfl)
    · rw [g2]; exact bsome.trans (by show (wr now 59 (nI u) b).bind _ = _; rw [w2]; rfl)
    · rw [updN (by omega)]; exact hS.1
    · by_cases e : i = u
      · subst e; rw [updS, updS]; exact ⟨rfl, b1, b2⟩
      · rw [updN e, updN e]; exact hS.2.1 i hi
    · rw [updN (by omega), updN (by omega), updN (by omega)]; exact hS.2.2.1 i hi
end
