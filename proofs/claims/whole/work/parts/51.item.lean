/-! items: read alike -/
def up3 (X : Nat → Int32) (v0 v1 v2 : Int32) : Nat → Int32 := upd (upd (upd X 0 v0) 1 v1) 2 v2
theorem up3_0 (X : Nat → Int32) (v0 v1 v2 : Int32) : rd (up3 X v0 v1 v2) 3 0 = some v0 := by
  rw [show rd (up3 X v0 v1 v2) 3 0 = some (up3 X v0 v1 v2 0) from rd_nI (k := 0) (by omega) (by omega)]; rfl
theorem up3_1 (X : Nat → Int32) (v0 v1 v2 : Int32) : rd (up3 X v0 v1 v2) 3 1 = some v1 := by
  rw [show rd (up3 X v0 v1 v2) 3 1 = some (up3 X v0 v1 v2 1) from rd_nI (k := 1) (by omega) (by omega)]; rfl
theorem up3_2 (X : Nat → Int32) (v0 v1 v2 : Int32) : rd (up3 X v0 v1 v2) 3 2 = some v2 := by
  rw [show rd (up3 X v0 v1 v2) 3 2 = some (up3 X v0 v1 v2 2) from rd_nI (k := 2) (by omega) (by omega)]; rfl
theorem up1_0 (X : Nat → Int32) (v : Int32) : rd (upd X 0 v) 3 0 = some v := by
  rw [show rd (upd X 0 v) 3 0 = some (upd X 0 v 0) from rd_nI (k := 0) (by omega) (by omega)]; rfl
theorem four (i : Nat) : (4 : Int32) * nI i = nI (4 * i) := by
  have h : ∀ a b : Nat, nI a * nI b = nI (a * b) := fun a b => (Int32.ofNat_mul a b).symm
  exact h 4 i
def itV (X_c : Nat → Int32) (len j j' L : Nat) (kd : Int32) : Prop := p_X5_letterAt X_c (nI len) (nI j) = some 118 ∧ (∀ X_d, p_X5_readItem X_c X_d (nI len) (nI j) = some (nI j', upd X_d 0 kd)) ∧ ∀ X_d, p_X5_isAllowed (upd X_d 0 kd) 118 (nI L) = some 1
def itC (X_c : Nat → Int32) (len j j' L uu vv : Nat) (kk : Int32) : Prop := ∃ c v0 v1 v2, (c = 99 ∧ v0 = nI uu ∧ v1 = kk ∧ v2 = nI vv ∨ c = 100 ∧ v0 = nI uu ∧ v1 = nI vv ∧ kk = -v2) ∧ p_X5_letterAt X_c (nI len) (nI j) = some c ∧ (∀ X_d, p_X5_readItem X_c X_d (nI len) (nI j) = some (nI j', up3 X_d v0 v1 v2)) ∧ ∀ X_d, p_X5_isAllowed (up3 X_d v0 v1 v2) c (nI L) = some 1
def itB (X_c : Nat → Int32) (len j L : Nat) : Prop := ∃ c, p_X5_letterAt X_c (nI len) (nI j) = some c ∧ ∀ X_d, ∃ r X_d', p_X5_readItem X_c X_d (nI len) (nI j) = some (r, X_d') ∧ (r < 0 ∨ p_X5_isAllowed X_d' c (nI L) = some 0)
section
variable {len : Nat} {X_c text : Nat → Int32}
theorem item3 (h : TXr len X_c text) {j L nA : Nat} (hj : j < len) (hL : L ≤ 10) (hA : nA < 39) {c : Int32} (hc : c = 99 ∨ c = 100) (hl : LA len text j = c) :
    (itB X_c len j L ∧ ∀ asked kinds num, ∃ L' A' as' ki' sp' nu', p_X7_item (nI len) text (nI L) (nI nA) asked kinds (nI j) num = some (0, L', A', as', ki', sp', nu')) ∨
    (∃ (uu vv j' : Nat) (kk : Int32), j + 7 ≤ j' ∧ j' ≤ len ∧ uu < L ∧ vv < L ∧ uu ≠ vv ∧ -9 ≤ kk.toInt ∧ kk.toInt ≤ 9 ∧ itC X_c len j j' L uu vv kk ∧ ∀ asked kinds num, ∃ nu', p_X7_item (nI len) text (nI L) (nI nA) asked kinds (nI j) num = some (1, nI L, nI (nA + 1), upd (upd (upd asked (4 * nA) (nI uu)) (4 * nA + 1) kk) (4 * nA + 2) (nI vv), kinds, nI j', nu')) := by
  have hlen := h.1
  obtain ⟨l1, l2⟩ := letC h (j := j) (by omega)
  rw [hl] at l1 l2
  have n118 : ¬ c = 118 := by rcases hc with rfl | rfl <;> decide
  have hnb : p_X5_numbersBehind c = some 3 := by rcases hc with rfl | rfl <;> decide
  have hrd : ∀ X_d, p_X5_readItem X_c X_d (nI len) (nI j) = q_X5_readItem_16 X_c (nI len) (nI j) FU 0 (nI (j + 1)) 3 X_d := fun X_d => by
    unfold p_X5_readItem
    rw [l1, bsome, hnb, bsome, nI1]
  have hit : ∀ asked kinds num, p_X7_item (nI len) text (nI L) (nI nA) asked kinds (nI j) num = q_X7_item_78 (nI len) text c (nI L) (nI nA) asked kinds (nI (j + 1)) num := fun asked kinds num => by
    unfold p_X7_item
    rw [l2, bsome, if_neg n118, nI1]
    rcases hc with rfl | rfl
    · rw [if_pos rfl]
    · rw [if_neg (by decide), if_pos rfl]
  rcases nums3 h (j := j + 1) (by omega) with ⟨v0, v1, v2, j', b1, b2, x1, x2, y1, y2, z1', z2', b3, b4⟩ | ⟨b3, b4⟩
  · have t9 : (9 : Int32).toInt = 9 := by decide
    obtain ⟨e0, -, e0'⟩ := isI (n := 100) x1 (by omega)
    obtain ⟨e1, -, e1'⟩ := isI (n := 100) y1 (by omega)
    obtain ⟨e2, -, e2'⟩ := isI (n := 100) z1' (by omega)
    -- by the letter: which is the level, which the number
    have hall : ∀ X_d, p_X5_isAllowed (up3 X_d v0 v1 v2) c (nI L) = (if nI L ≤ v0 then some 0 else if nI L ≤ (if c = 99 then v2 else v1) then some 0 else if v0 = (if c = 99 then v2 else v1) then some 0 else if 9 < (if c = 99 then v1 else v2) then some 0 else some 1) := fun X_d => by
      unfold p_X5_isAllowed q_X5_isAllowed_49 q_X5_isAllowed_71
      rw [if_neg n118]
      rcases hc with rfl | rfl
      · simp only [if_true, up3_2, bsome, up3_1, up3_0]
      · simp only [show ¬ (100 : Int32) = 99 by decide, if_false]
        simp only [up3_2, bsome, up3_1, up3_0]
    have hmod : ∀ asked kinds num, p_X7_item (nI len) text (nI L) (nI nA) asked kinds (nI j) num = (if nI L ≤ v0 then some (0, nI L, nI nA, asked, kinds, nI j', up3 num v0 v1 v2) else if nI L ≤ (if c = 99 then v2 else v1) then some (0, nI L, nI nA, asked, kinds, nI j', up3 num v0 v1 v2) else if v0 = (if c = 99 then v2 else v1) then some (0, nI L, nI nA, asked, kinds, nI j', up3 num v0 v1 v2) else if (if c = 99 then v1 else v2) ≤ 9 then some (1, nI L, nI (nA + 1), upd (upd (upd asked (4 * nA) v0) (4 * nA + 1) (if c = 99 then v1 else -v2)) (4 * nA + 2) (if c = 99 then v2 else v1), kinds, nI j', up3 num v0 v1 v2) else some (0, nI L, nI nA, asked, kinds, nI j', up3 num v0 v1 v2)) := fun asked kinds num => by
      rw [hit]
      unfold q_X7_item_78
      rw [b4]
      refine bsome.trans ?_
      show (if (1 : Int32) = 0 then _ else (rd (up3 num v0 v1 v2) 3 0).bind _) = _
      rw [z0, up3_0, bsome]
      unfold q_X7_item_116 q_X7_item_138 p_X7_askedIs
      have wA : ∀ (g : Nat → Int32) x, wr g 160 (4 * nI nA) x = some (upd g (4 * nA) x) := fun g x => by rw [four]; exact wr_nI (by omega) (by omega)
      have wB : ∀ (g : Nat → Int32) x, wr g 160 (4 * nI nA + 1) x = some (upd g (4 * nA + 1) x) := fun g x => by rw [four, nI1]; exact wr_nI (by omega) (by omega)
      have wC : ∀ (g : Nat → Int32) x, wr g 160 (4 * nI nA + 2) x = some (upd g (4 * nA + 2) x) := fun g x => by rw [four, show nI (4 * nA) + 2 = nI (4 * nA + 2) from nIadd _ 2]; exact wr_nI (by omega) (by omega)
      rcases hc with rfl | rfl
      · rw [show rd (upd (upd (upd num 0 v0) 1 v1) 2 v2) 3 2 = some v2 from up3_2 _ _ _ _, show rd (upd (upd (upd num 0 v0) 1 v1) 2 v2) 3 1 = some v1 from up3_1 _ _ _ _]
        simp only [if_true, bsome, wA, wB, wC, nI1]
        rfl
      · rw [show rd (upd (upd (upd num 0 v0) 1 v1) 2 v2) 3 2 = some v2 from up3_2 _ _ _ _, show rd (upd (upd (upd num 0 v0) 1 v1) 2 v2) 3 1 = some v1 from up3_1 _ _ _ _]
        simp only [show ¬ (100 : Int32) = 99 by decide, if_false, bsome, wA, wB, wC, nI1]
        rfl
    have hbad : (∀ X_d, p_X5_isAllowed (up3 X_d v0 v1 v2) c (nI L) = some 0) → itB X_c len j L := fun q => ⟨c, l1, fun X_d => ⟨nI j', up3 X_d v0 v1 v2, by rw [hrd]; exact b3 X_d _, Or.inr (q X_d)⟩⟩
    by_cases c1 : nI L ≤ v0
    · exact Or.inl ⟨hbad fun X_d => by rw [hall, if_pos c1], fun asked kinds num => ⟨_, _, _, _, _, _, by rw [hmod, if_pos c1]⟩⟩
    by_cases c2 : nI L ≤ (if c = 99 then v2 else v1)
    · exact Or.inl ⟨hbad fun X_d => by rw [hall, if_neg c1, if_pos c2], fun asked kinds num => ⟨_, _, _, _, _, _, by rw [hmod, if_neg c1, if_pos c2]⟩⟩
    by_cases c3 : v0 = (if c = 99 then v2 else v1)
    · exact Or.inl ⟨hbad fun X_d => by rw [hall, if_neg c1, if_neg c2, if_pos c3], fun asked kinds num => ⟨_, _, _, _, _, _, by rw [hmod, if_neg c1, if_neg c2, if_pos c3]⟩⟩
    by_cases c4 : (if c = 99 then v1 else v2) ≤ 9
    · have c4' := tle.mp c4
      rw [t9] at c4'
      have c4n : ¬ 9 < (if c = 99 then v1 else v2) := fun q => by have := tlt.mp q; omega
      have k0 : v0.toNatClampNeg < L := Nat.lt_of_not_le fun q => c1 (by rw [e0]; exact (nIle (by omega) (by omega)).mpr q)
      refine Or.inr ⟨v0.toNatClampNeg, (if c = 99 then v2 else v1).toNatClampNeg, j', (if c = 99 then v1 else -v2), by omega, b2, k0, ?_, ?_, ?_, ?_, ?_, fun asked kinds num => ⟨up3 num v0 v1 v2, ?_⟩⟩
      · rcases hc with rfl | rfl
        · exact Nat.lt_of_not_le fun q => c2 (by show nI L ≤ v2; rw [e2]; exact (nIle (by omega) (by omega)).mpr q)
        · exact Nat.lt_of_not_le fun q => c2 (by show nI L ≤ v1; rw [e1]; exact (nIle (by omega) (by omega)).mpr q)
      · rcases hc with rfl | rfl
        · exact fun q => c3 (by show v0 = v2; rw [e0, e2]; exact congrArg nI q)
        · exact fun q => c3 (by show v0 = v1; rw [e0, e1]; exact congrArg nI q)
      · rcases hc with rfl | rfl
        · show -9 ≤ v1.toInt; omega
        · show -9 ≤ (-v2).toInt
          have : v2.toInt ≤ 9 := c4'
          rw [tneg (by omega)]; omega
      · rcases hc with rfl | rfl
        · exact c4'
        · show (-v2).toInt ≤ 9
          rw [tneg (by omega)]; omega
      · refine ⟨c, v0, v1, v2, ?_, l1, fun X_d => by rw [hrd]; exact b3 X_d _, fun X_d => by rw [hall, if_neg c1, if_neg c2, if_neg c3, if_neg c4n]⟩
        rcases hc with rfl | rfl
        · exact Or.inl ⟨rfl, e0, rfl, e2⟩
        · exact Or.inr ⟨rfl, e0, e1, rfl⟩
      · rw [hmod, if_neg c1, if_neg c2, if_neg c3, if_pos c4, ← e0]
        rcases hc with rfl | rfl
        · show some (_, _, _, upd _ _ v2, _) = some (_, _, _, upd _ _ (nI v2.toNatClampNeg), _)
          rw [← e2]
        · show some (_, _, _, upd _ _ v1, _) = some (_, _, _, upd _ _ (nI v1.toNatClampNeg), _)
          rw [← e1]
    · have c4n : 9 < (if c = 99 then v1 else v2) := tlt.mpr (Int.not_le.mp fun q => c4 (tle.mpr q))
      exact Or.inl ⟨hbad fun X_d => by rw [hall, if_neg c1, if_neg c2, if_neg c3, if_pos c4n], fun asked kinds num => ⟨_, _, _, _, _, _, by rw [hmod, if_neg c1, if_neg c2, if_neg c3, if_neg c4]⟩⟩
  · refine Or.inl ⟨⟨c, l1, fun X_d => ?_⟩, fun asked kinds num => ?_⟩
    · obtain ⟨X', q⟩ := b3 X_d (nI j)
      exact ⟨-4, X', by rw [hrd]; exact q, Or.inl (by decide)⟩
    · obtain ⟨sp, nu, q⟩ := b4 num
      refine ⟨nI L, nI nA, asked, kinds, sp, nu, ?_⟩
      rw [hit]
      unfold q_X7_item_78
      rw [q]
      exact bsome.trans z1
theorem e_item (h : TXr len X_c text) {j L nA : Nat} (hj : j < len) (hL : L ≤ 10) (hA : nA < 39) :
    (itB X_c len j L ∧ ∀ asked kinds num, ∃ L' A' as' ki' sp' nu', p_X7_item (nI len) text (nI L) (nI nA) asked kinds (nI j) num = some (0, L', A', as', ki', sp', nu')) ∨
    (∃ (j' : Nat) (kd : Int32), j + 3 ≤ j' ∧ j' ≤ len ∧ 0 ≤ kd.toInt ∧ kd.toInt ≤ 3 ∧ L < 10 ∧ itV X_c len j j' L kd ∧ ∀ asked kinds num, ∃ nu', p_X7_item (nI len) text (nI L) (nI nA) asked kinds (nI j) num = some (1, nI (L + 1), nI nA, asked, upd kinds L kd, nI j', nu')) ∨
    (∃ (uu vv j' : Nat) (kk : Int32), j + 7 ≤ j' ∧ j' ≤ len ∧ uu < L ∧ vv < L ∧ uu ≠ vv ∧ -9 ≤ kk.toInt ∧ kk.toInt ≤ 9 ∧ itC X_c len j j' L uu vv kk ∧ ∀ asked kinds num, ∃ nu', p_X7_item (nI len) text (nI L) (nI nA) asked kinds (nI j) num = some (1, nI L, nI (nA + 1), upd (upd (upd asked (4 * nA) (nI uu)) (4 * nA + 1) kk) (4 * nA + 2) (nI vv), kinds, nI j', nu')) := by
  have hlen := h.1
  obtain ⟨l1, l2⟩ := letC h (j := j) (by omega)
  by_cases c99 : LA len text j = 99
  · exact (item3 h hj hL hA (Or.inl rfl) c99).imp id Or.inr
  by_cases c100 : LA len text j = 100
  · exact (item3 h hj hL hA (Or.inr rfl) c100).imp id Or.inr
  by_cases c118 : LA len text j = 118
  · rw [c118] at l1 l2
    have hrd : ∀ X_d, p_X5_readItem X_c X_d (nI len) (nI j) = q_X5_readItem_16 X_c (nI len) (nI j) FU 0 (nI (j + 1)) 1 X_d := fun X_d => by
      unfold p_X5_readItem
      rw [l1, bsome, show p_X5_numbersBehind 118 = some 1 by decide, bsome, nI1]
    have t3 : (3 : Int32).toInt = 3 := by decide
    rcases nums1 h (j := j + 1) (by omega) with ⟨v, j', b1, b2, x1, x2, b3, b4⟩ | ⟨b3, b4⟩
    · have hall : ∀ X_d, p_X5_isAllowed (upd X_d 0 v) 118 (nI L) = if 10 ≤ nI L then some 0 else if 3 < v then some 0 else some 1 := fun X_d => by
        unfold p_X5_isAllowed
        rw [if_pos rfl, up1_0, bsome]
      have hmod : ∀ asked kinds num, p_X7_item (nI len) text (nI L) (nI nA) asked kinds (nI j) num = if nI L = 10 then some (0, nI L, nI nA, asked, kinds, nI j', upd num 0 v) else if v ≤ 3 then (wr kinds 10 (nI L) v).bind fun g => some (1, nI L + 1, nI nA, asked, g, nI j', upd num 0 v) else some (0, nI L, nI nA, asked, kinds, nI j', upd num 0 v) := fun asked kinds num => by
        unfold p_X7_item p_X7_levelIs
        rw [l2, bsome, if_pos rfl, nI1, b4]
        refine bsome.trans ?_
        show (if (1 : Int32) = 0 then _ else if nI L = 10 then _ else (rd (upd num 0 v) 3 0).bind _) = _
        rw [z0, up1_0, bsome, bsome]
        by_cases q1 : nI L = 10
        · rw [if_pos q1, if_pos q1]
        · rw [if_neg q1, if_neg q1]
          by_cases q2 : v ≤ 3
          · rw [if_pos q2, if_pos q2, wr_nI (by
              rcases Nat.lt_or_ge L 10 with g | g
              · exact g
              · exact (q1 (by rw [show L = 10 by omega]; rfl)).elim) (by omega)]
            rfl
          · rw [if_neg q2, if_neg q2]
      by_cases q1 : L = 10
      · refine Or.inl ⟨⟨118, l1, fun X_d => ⟨nI j', upd X_d 0 v, by rw [hrd]; exact b3 X_d _, Or.inr ?_⟩⟩, fun asked kinds num => ⟨_, _, _, _, _, _, by rw [hmod, if_pos (by rw [q1]; rfl)]⟩⟩
        rw [hall, if_pos (by rw [q1]; decide)]
      · have q1' : ¬ nI L = 10 := fun q => q1 ((nI_inj (b := 10) (by omega) (by omega)).mp q)
        have q1'' : ¬ (10 : Int32) ≤ nI L := nI_ge (a := L) (b := 10) (by omega) (by omega)
        by_cases q2 : v ≤ 3
        · have q2' := tle.mp q2
          rw [t3] at q2'
          refine Or.inr (Or.inl ⟨j', v, by omega, b2, x1, q2', by omega, ⟨l1, fun X_d => by rw [hrd]; exact b3 X_d _, fun X_d => ?_⟩, fun asked kinds num => ⟨upd num 0 v, ?_⟩⟩)
          · rw [hall, if_neg q1'', if_neg (fun q => by have := tlt.mp q; omega)]
          · rw [hmod, if_neg q1', if_pos q2, wr_nI (by omega) (by omega), bsome, nI1]
        · refine Or.inl ⟨⟨118, l1, fun X_d => ⟨nI j', upd X_d 0 v, by rw [hrd]; exact b3 X_d _, Or.inr ?_⟩⟩, fun asked kinds num => ⟨_, _, _, _, _, _, by rw [hmod, if_neg q1', if_neg q2]⟩⟩
          rw [hall, if_neg q1'', if_pos (tlt.mpr (Int.not_le.mp fun q => q2 (tle.mpr q)))]
    · refine Or.inl ⟨⟨118, l1, fun X_d => ?_⟩, fun asked kinds num => ?_⟩
      · obtain ⟨X', q⟩ := b3 X_d (nI j)
        exact ⟨-4, X', by rw [hrd]; exact q, Or.inl (by decide)⟩
      · obtain ⟨sp, nu, q⟩ := b4 num
        refine ⟨nI L, nI nA, asked, kinds, sp, nu, ?_⟩
        unfold p_X7_item
        rw [l2, bsome, if_pos rfl, nI1, q]
        exact bsome.trans z1
  · refine Or.inl ⟨⟨LA len text j, l1, fun X_d => ⟨-4, X_d, ?_, Or.inl (by decide)⟩⟩, fun asked kinds num => ⟨nI L, nI nA, asked, kinds, nI (j + 1), num, ?_⟩⟩
    · unfold p_X5_readItem p_X5_numbersBehind
      obtain ⟨FR, hFR⟩ := FUeq 1 (by omega)
      rw [l1, bsome, if_neg c99, if_neg c100, if_neg c118, bsome, hFR, q_X5_readItem_16.eq_2, if_pos (show (0 : Int32) ≤ 0 by decide), if_pos rfl]
    · unfold p_X7_item
      rw [l2, bsome, if_neg c118, if_neg c99, if_neg c100, nI1]
end
