/-! The first text: its items; both objects begin alike. -/
theorem rI1 {X_c : Nat → Int32} {X_n a1 v4 v3 v2 d s : Int32} {n : Nat} {X_d g : Nat → Int32} (c1 : ¬ v2 ≤ v4) (h1 : p_X5_figuresAt X_c X_n v3 = some 1) (h2 : p_X5_letterAt X_c X_n (v3 + 1) = some s) (hs : s = if v4 = v2 - 1 then 59 else 44) (h3 : p_X5_numberAt X_c X_n v3 1 = some d) (h4 : wr X_d 3 v4 d = some g) : q_X5_readItem_16 X_c X_n a1 (n + 1) v4 v3 v2 X_d = q_X5_readItem_16 X_c X_n a1 n (v4 + 1) (v3 + (1 + 1)) v2 g := by
  rw [q_X5_readItem_16.eq_2, if_neg c1, h1, bsome]
  by_cases e : v4 = v2 - 1
  · rw [if_pos e] at hs ⊢
    unfold q_X5_readItem_44
    rw [if_neg (show ¬ (1 : Int32) = 0 by decide), h2, bsome, if_pos hs, h3, bsome, h4, bsome]
  · rw [if_neg e] at hs ⊢
    unfold q_X5_readItem_44
    rw [if_neg (show ¬ (1 : Int32) = 0 by decide), h2, bsome, if_pos hs, h3, bsome, h4, bsome]
theorem itV_of {X_c : Nat → Int32} {len j L : Nat} {kd : Int32} (h0 : p_X5_letterAt X_c (nI len) (nI j) = some 118) (f0 : p_X5_figuresAt X_c (nI len) (nI j + 1) = some 1) (s0 : p_X5_letterAt X_c (nI len) (nI j + 1 + 1) = some 59) (n0 : p_X5_numberAt X_c (nI len) (nI j + 1) 1 = some kd) (he : nI j + 1 + (1 + 1) = nI (j + 3)) (hL : ¬ (10 : Int32) ≤ nI L) (hk : ¬ (3 : Int32) < kd) : itV X_c len j (j + 3) L kd := by
  refine ⟨h0, fun X_d => ?_, fun X_d => ?_⟩
  · unfold p_X5_readItem
    rw [h0, bsome, show p_X5_numbersBehind 118 = some 1 by decide, bsome]
    obtain ⟨r, hr⟩ := FUeq 2 (by decide)
    rw [hr]
    refine (rI1 (n := r + 1) (v4 := 0) (v2 := 1) (g := upd X_d 0 kd) (by decide) f0 s0 (by decide) n0 (wr_at (k := 0) rfl (by omega) (by omega))).trans ?_
    rw [q_X5_readItem_16.eq_2, if_pos (by decide), if_neg (by decide), he]
  · unfold p_X5_isAllowed
    rw [if_pos rfl, if_neg hL, up1_0, bsome, if_neg hk]
theorem itC_of {X_c : Nat → Int32} {len j L uu vv : Nat} {kk c v0 v1 v2 : Int32} (hc : c = 99 ∧ v0 = nI uu ∧ v1 = kk ∧ v2 = nI vv ∨ c = 100 ∧ v0 = nI uu ∧ v1 = nI vv ∧ kk = -v2) (h0 : p_X5_letterAt X_c (nI len) (nI j) = some c) (hb : p_X5_numbersBehind c = some 3) (f0 : p_X5_figuresAt X_c (nI len) (nI j + 1) = some 1) (s0 : p_X5_letterAt X_c (nI len) (nI j + 1 + 1) = some 44) (n0 : p_X5_numberAt X_c (nI len) (nI j + 1) 1 = some v0) (f1 : p_X5_figuresAt X_c (nI len) (nI j + 1 + (1 + 1)) = some 1) (s1 : p_X5_letterAt X_c (nI len) (nI j + 1 + (1 + 1) + 1) = some 44) (n1 : p_X5_numberAt X_c (nI len) (nI j + 1 + (1 + 1)) 1 = some v1) (f2 : p_X5_figuresAt X_c (nI len) (nI j + 1 + (1 + 1) + (1 + 1)) = some 1) (s2 : p_X5_letterAt X_c (nI len) (nI j + 1 + (1 + 1) + (1 + 1) + 1) = some 59) (n2 : p_X5_numberAt X_c (nI len) (nI j + 1 + (1 + 1) + (1 + 1)) 1 = some v2) (he : nI j + 1 + (1 + 1) + (1 + 1) + (1 + 1) = nI (j + 7)) (ha : ∀ X_d, p_X5_isAllowed (up3 X_d v0 v1 v2) c (nI L) = some 1) : itC X_c len j (j + 7) L uu vv kk := by
  refine ⟨c, v0, v1, v2, hc, h0, fun X_d => ?_, ha⟩
  unfold p_X5_readItem
  rw [h0, bsome, hb, bsome]
  obtain ⟨r, hr⟩ := FUeq 4 (by decide)
  rw [hr]
  refine (rI1 (v4 := 0) (v2 := 3) (g := upd X_d 0 v0) (n := r + 3) (by decide) f0 s0 (by decide) n0 (wr_at (k := 0) rfl (by omega) (by omega))).trans ?_
  refine (rI1 (v4 := 0 + 1) (v2 := 3) (g := upd (upd X_d 0 v0) 1 v1) (n := r + 2) (by decide) f1 s1 (by decide) n1 (wr_at (k := 1) (by decide) (by omega) (by omega))).trans ?_
  refine (rI1 (v4 := 0 + 1 + 1) (v2 := 3) (g := upd (upd (upd X_d 0 v0) 1 v1) 2 v2) (n := r + 1) (by decide) f2 s2 (by decide) n2 (wr_at (k := 2) (by decide) (by omega) (by omega))).trans ?_
  rw [q_X5_readItem_16.eq_2, if_pos (by decide), if_neg (by decide), he]
  rfl
section
variable {X_c ask kin : Nat → Int32} {len N nAf : Nat}
theorem GT.end0 (r : Nat) : GT X_c len N nAf ask kin (r + 1) len N nAf := Or.inl ⟨rfl, rfl, rfl⟩
theorem GT.lev {r j L nA : Nat} (h1 : j + 3 ≤ len) (h2 : L < 10) (h3 : 0 ≤ (kin L).toInt) (h4 : (kin L).toInt ≤ 3) (hi : itV X_c len j (j + 3) L (kin L)) (hg : GT X_c len N nAf ask kin r (j + 3) (L + 1) nA) : GT X_c len N nAf ask kin (r + 1) j L nA := Or.inr (Or.inl ⟨j + 3, Nat.le_refl _, h1, h2, h3, h4, hi, hg⟩)
theorem GT.bnd {r j L nA : Nat} (uu vv : Nat) (h1 : j + 7 ≤ len) (h2 : uu < L) (h3 : vv < L) (h4 : uu ≠ vv) (h5 : ask (4 * nA) = nI uu) (h6 : ask (4 * nA + 2) = nI vv) (h7 : -9 ≤ (ask (4 * nA + 1)).toInt) (h8 : (ask (4 * nA + 1)).toInt ≤ 9) (hi : itC X_c len j (j + 7) L uu vv (ask (4 * nA + 1))) (hg : GT X_c len N nAf ask kin r (j + 7) L (nA + 1)) : GT X_c len N nAf ask kin (r + 1) j L nA := Or.inr (Or.inr ⟨uu, vv, j + 7, Nat.le_refl _, h1, h2, h3, h4, h5, h6, h7, h8, hi, hg⟩)
end
theorem fi_0 : itV (txF 77) 77 0 (0 + 3) 0 (kd0 0) := itV_of (kd := kd0 0) (by decide +kernel) (by decide +kernel) (by decide +kernel) (by decide +kernel) (by decide +kernel) (by decide +kernel) (by decide +kernel)
theorem fi_1 : itV (txF 77) 77 3 (3 + 3) 1 (kd0 1) := itV_of (kd := kd0 1) (by decide +kernel) (by decide +kernel) (by decide +kernel) (by decide +kernel) (by decide +kernel) (by decide +kernel) (by decide +kernel)
theorem fi_2 : itV (txF 77) 77 6 (6 + 3) 2 (kd0 2) := itV_of (kd := kd0 2) (by decide +kernel) (by decide +kernel) (by decide +kernel) (by decide +kernel) (by decide +kernel) (by decide +kernel) (by decide +kernel)
theorem fi_3 : itV (txF 77) 77 9 (9 + 3) 3 (kd0 3) := itV_of (kd := kd0 3) (by decide +kernel) (by decide +kernel) (by decide +kernel) (by decide +kernel) (by decide +kernel) (by decide +kernel) (by decide +kernel)
theorem fi_4 : itV (txF 77) 77 12 (12 + 3) 4 (kd0 4) := itV_of (kd := kd0 4) (by decide +kernel) (by decide +kernel) (by decide +kernel) (by decide +kernel) (by decide +kernel) (by decide +kernel) (by decide +kernel)
theorem fi_5 : itV (txF 77) 77 15 (15 + 3) 5 (kd0 5) := itV_of (kd := kd0 5) (by decide +kernel) (by decide +kernel) (by decide +kernel) (by decide +kernel) (by decide +kernel) (by decide +kernel) (by decide +kernel)
theorem fi_6 : itV (txF 77) 77 18 (18 + 3) 6 (kd0 6) := itV_of (kd := kd0 6) (by decide +kernel) (by decide +kernel) (by decide +kernel) (by decide +kernel) (by decide +kernel) (by decide +kernel) (by decide +kernel)
theorem fi_7 : itC (txF 77) 77 21 (21 + 7) 7 0 1 (ak0 (4 * 0 + 1)) := itC_of (c := 99) (v0 := nI 0) (v1 := nI 1) (v2 := nI 1) (Or.inl ⟨rfl, rfl, by decide +kernel, rfl⟩) (by decide +kernel) (by decide +kernel) (by decide +kernel) (by decide +kernel) (by decide +kernel) (by decide +kernel) (by decide +kernel) (by decide +kernel) (by decide +kernel) (by decide +kernel) (by decide +kernel) (by decide +kernel) (fun X_d => by unfold p_X5_isAllowed q_X5_isAllowed_49 q_X5_isAllowed_71; simp only [up3_2, up3_1, up3_0, bsome]; decide)
theorem fi_8 : itC (txF 77) 77 28 (28 + 7) 7 1 3 (ak0 (4 * 1 + 1)) := itC_of (c := 99) (v0 := nI 1) (v1 := nI 0) (v2 := nI 3) (Or.inl ⟨rfl, rfl, by decide +kernel, rfl⟩) (by decide +kernel) (by decide +kernel) (by decide +kernel) (by decide +kernel) (by decide +kernel) (by decide +kernel) (by decide +kernel) (by decide +kernel) (by decide +kernel) (by decide +kernel) (by decide +kernel) (by decide +kernel) (fun X_d => by unfold p_X5_isAllowed q_X5_isAllowed_49 q_X5_isAllowed_71; simp only [up3_2, up3_1, up3_0, bsome]; decide)
theorem fi_9 : itC (txF 77) 77 35 (35 + 7) 7 3 2 (ak0 (4 * 2 + 1)) := itC_of (c := 100) (v0 := nI 3) (v1 := nI 2) (v2 := nI 2) (Or.inr ⟨rfl, rfl, rfl, by decide +kernel⟩) (by decide +kernel) (by decide +kernel) (by decide +kernel) (by decide +kernel) (by decide +kernel) (by decide +kernel) (by decide +kernel) (by decide +kernel) (by decide +kernel) (by decide +kernel) (by decide +kernel) (by decide +kernel) (fun X_d => by unfold p_X5_isAllowed q_X5_isAllowed_49 q_X5_isAllowed_71; simp only [up3_2, up3_1, up3_0, bsome]; decide)
theorem fi_10 : itC (txF 77) 77 42 (42 + 7) 7 2 4 (ak0 (4 * 3 + 1)) := itC_of (c := 99) (v0 := nI 2) (v1 := nI 1) (v2 := nI 4) (Or.inl ⟨rfl, rfl, by decide +kernel, rfl⟩) (by decide +kernel) (by decide +kernel) (by decide +kernel) (by decide +kernel) (by decide +kernel) (by decide +kernel) (by decide +kernel) (by decide +kernel) (by decide +kernel) (by decide +kernel) (by decide +kernel) (by decide +kernel) (fun X_d => by unfold p_X5_isAllowed q_X5_isAllowed_49 q_X5_isAllowed_71; simp only [up3_2, up3_1, up3_0, bsome]; decide)
theorem fi_11 : itC (txF 77) 77 49 (49 + 7) 7 4 5 (ak0 (4 * 4 + 1)) := itC_of (c := 99) (v0 := nI 4) (v1 := nI 2) (v2 := nI 5) (Or.inl ⟨rfl, rfl, by decide +kernel, rfl⟩) (by decide +kernel) (by decide +kernel) (by decide +kernel) (by decide +kernel) (by decide +kernel) (by decide +kernel) (by decide +kernel) (by decide +kernel) (by decide +kernel) (by decide +kernel) (by decide +kernel) (by decide +kernel) (fun X_d => by unfold p_X5_isAllowed q_X5_isAllowed_49 q_X5_isAllowed_71; simp only [up3_2, up3_1, up3_0, bsome]; decide)
theorem fi_12 : itC (txF 77) 77 56 (56 + 7) 7 0 5 (ak0 (4 * 5 + 1)) := itC_of (c := 99) (v0 := nI 0) (v1 := nI 3) (v2 := nI 5) (Or.inl ⟨rfl, rfl, by decide +kernel, rfl⟩) (by decide +kernel) (by decide +kernel) (by decide +kernel) (by decide +kernel) (by decide +kernel) (by decide +kernel) (by decide +kernel) (by decide +kernel) (by decide +kernel) (by decide +kernel) (by decide +kernel) (by decide +kernel) (fun X_d => by unfold p_X5_isAllowed q_X5_isAllowed_49 q_X5_isAllowed_71; simp only [up3_2, up3_1, up3_0, bsome]; decide)
theorem fi_13 : itC (txF 77) 77 63 (63 + 7) 7 5 6 (ak0 (4 * 6 + 1)) := itC_of (c := 100) (v0 := nI 5) (v1 := nI 6) (v2 := nI 1) (Or.inr ⟨rfl, rfl, rfl, by decide +kernel⟩) (by decide +kernel) (by decide +kernel) (by decide +kernel) (by decide +kernel) (by decide +kernel) (by decide +kernel) (by decide +kernel) (by decide +kernel) (by decide +kernel) (by decide +kernel) (by decide +kernel) (by decide +kernel) (fun X_d => by unfold p_X5_isAllowed q_X5_isAllowed_49 q_X5_isAllowed_71; simp only [up3_2, up3_1, up3_0, bsome]; decide)
theorem fi_14 : itC (txF 77) 77 70 (70 + 7) 7 6 0 (ak0 (4 * 7 + 1)) := itC_of (c := 99) (v0 := nI 6) (v1 := nI 0) (v2 := nI 0) (Or.inl ⟨rfl, rfl, by decide +kernel, rfl⟩) (by decide +kernel) (by decide +kernel) (by decide +kernel) (by decide +kernel) (by decide +kernel) (by decide +kernel) (by decide +kernel) (by decide +kernel) (by decide +kernel) (by decide +kernel) (by decide +kernel) (by decide +kernel) (fun X_d => by unfold p_X5_isAllowed q_X5_isAllowed_49 q_X5_isAllowed_71; simp only [up3_2, up3_1, up3_0, bsome]; decide)
theorem first_GT : GT (txF 77) 77 7 8 ak0 kd0 201 0 0 0 := by
  refine GT.lev (r := 200) (j := 0) (L := 0) (nA := 0) (by decide) (by decide) (by decide +kernel) (by decide +kernel) fi_0 ?_
  refine GT.lev (r := 199) (j := 3) (L := 1) (nA := 0) (by decide) (by decide) (by decide +kernel) (by decide +kernel) fi_1 ?_
  refine GT.lev (r := 198) (j := 6) (L := 2) (nA := 0) (by decide) (by decide) (by decide +kernel) (by decide +kernel) fi_2 ?_
  refine GT.lev (r := 197) (j := 9) (L := 3) (nA := 0) (by decide) (by decide) (by decide +kernel) (by decide +kernel) fi_3 ?_
  refine GT.lev (r := 196) (j := 12) (L := 4) (nA := 0) (by decide) (by decide) (by decide +kernel) (by decide +kernel) fi_4 ?_
  refine GT.lev (r := 195) (j := 15) (L := 5) (nA := 0) (by decide) (by decide) (by decide +kernel) (by decide +kernel) fi_5 ?_
  refine GT.lev (r := 194) (j := 18) (L := 6) (nA := 0) (by decide) (by decide) (by decide +kernel) (by decide +kernel) fi_6 ?_
  refine GT.bnd (r := 193) (j := 21) (L := 7) (nA := 0) 0 1 (by decide) (by decide) (by decide) (by decide) (by decide +kernel) (by decide +kernel) (by decide +kernel) (by decide +kernel) fi_7 ?_
  refine GT.bnd (r := 192) (j := 28) (L := 7) (nA := 1) 1 3 (by decide) (by decide) (by decide) (by decide) (by decide +kernel) (by decide +kernel) (by decide +kernel) (by decide +kernel) fi_8 ?_
  refine GT.bnd (r := 191) (j := 35) (L := 7) (nA := 2) 3 2 (by decide) (by decide) (by decide) (by decide) (by decide +kernel) (by decide +kernel) (by decide +kernel) (by decide +kernel) fi_9 ?_
  refine GT.bnd (r := 190) (j := 42) (L := 7) (nA := 3) 2 4 (by decide) (by decide) (by decide) (by decide) (by decide +kernel) (by decide +kernel) (by decide +kernel) (by decide +kernel) fi_10 ?_
  refine GT.bnd (r := 189) (j := 49) (L := 7) (nA := 4) 4 5 (by decide) (by decide) (by decide) (by decide) (by decide +kernel) (by decide +kernel) (by decide +kernel) (by decide +kernel) fi_11 ?_
  refine GT.bnd (r := 188) (j := 56) (L := 7) (nA := 5) 0 5 (by decide) (by decide) (by decide) (by decide) (by decide +kernel) (by decide +kernel) (by decide +kernel) (by decide +kernel) fi_12 ?_
  refine GT.bnd (r := 187) (j := 63) (L := 7) (nA := 6) 5 6 (by decide) (by decide) (by decide) (by decide) (by decide +kernel) (by decide +kernel) (by decide +kernel) (by decide +kernel) fi_13 ?_
  refine GT.bnd (r := 186) (j := 70) (L := 7) (nA := 7) 6 0 (by decide) (by decide) (by decide) (by decide) (by decide +kernel) (by decide +kernel) (by decide +kernel) (by decide +kernel) fi_14 ?_
  exact GT.end0 185
theorem first_alike : ∃ rf' cr' m' Oa' over' X_d' O' On' k' f' t' w' now' rnd' R ed bb' El' Eb' p' Ek' Ef' Et' Ew' G', p_X6_layText 0 0 0 (txF 77) (fun _ => 0) (nI 77) 0 (fun _ => 0) (fun _ => 0) 0 0 (fun _ => 0) (fun _ => 0) (fun _ => 0) (fun _ => 0) 0 0 (fun i => i) (fun _ _ => 0) (fun _ _ => 0) (fun _ _ => 0) (fun _ _ => 0) (fun _ => 0) (fun _ => 0) (fun _ _ => 0) 0 = some (nI 0, nI 0, rf', X_d', nI 0, O', On', nI cr', Oa', k', f', t', w', nI 7, nI m', p', Ek', Ef', Et', Ew', El', Eb', G', nI 7) ∧ p_X7_begin 0 (nI 7) (nI 8) ak0 kd0 (fun _ => 0) 0 0 0 0 0 (fun _ => 0) 0 (fun _ => 0) (fun _ => 0) (fun _ => 0) = some (nI 7, now', nI 0, nI 0, rf', nI cr', over', rnd', nI 0, R, ed, bb') ∧ SM 7 m' k' f' t' w' now' ∧ LG 7 m' f' t' w' G' ∧ UNr 7 0 p' Ek' Ef' Et' Ew' El' Eb' (fun _ => 0) ∧ RNr cr' O' rnd' Oa' over' := by
  obtain ⟨rf', cr', m', Oa', Ll', over', X2, O', On', k', f', t', w', now', rnd', R, ed, bb', El', Eb', p', Ek', Ef', Et', Ew', G', g1, g2, g3, g4, g5, g6, g7⟩ := lay_text (len := 77) (N := 7) (nAf := 8) (by decide) (by decide) (by decide) first_GT (c := 0) (p := fun i => i) ⟨by decide, fun i hi => hi, fun i j _ _ e => e⟩ 0 0 0 0 0 0 0 0 0 0 0 0 0 0 0 (fun _ => 0) (fun _ => 0) (fun _ => 0) (fun _ => 0) (fun _ => 0) (fun _ => 0) (fun _ => 0) (fun _ => 0) (fun _ => 0) (fun _ => 0) (fun _ => 0) (fun _ => 0) (fun _ => 0) (fun _ => 0) (fun _ _ => 0) (fun _ _ => 0) (fun _ _ => 0) (fun _ _ => 0) (fun _ _ => 0)
  have hLl : Ll' = nI 7 := g7.resolve_left (by decide)
  subst hLl
  exact ⟨rf', cr', m', Oa', over', X2, O', On', k', f', t', w', now', rnd', R, ed, bb', El', Eb', p', Ek', Ef', Et', Ew', G', g1, g2, g3, g4, ⟨g5.1, g5.2.1, g5.2.2, fun i hi => absurd hi (Nat.not_lt_zero _)⟩, g6⟩
theorem txC_all : ∀ i : Fin 77, txF 77 i.val = txC i.val := fun i => by unfold txF; rw [if_pos i.isLt]
