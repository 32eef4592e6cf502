/-! stands, there: the first of the fewest -/
def GS (f t w : Nat → Int32) (m v u : Nat) (wt : Int) (s : Nat) : Prop := ∀ k d, Wk (Ed f t w m (nI s)) k v u d → d + wt ≤ 0
def Bf (a b : Nat) : Prop := cnt 16 a.testBit < cnt 16 b.testBit ∨ (cnt 16 a.testBit = cnt 16 b.testBit ∧ Ah a b)
theorem Bf.trans {a b c : Nat} (h1 : Bf a b) (h2 : Bf b c) : Bf a c := by
  rcases h1 with h1 | ⟨h1, h1'⟩ <;> rcases h2 with h2 | ⟨h2, h2'⟩
  · exact Or.inl (by omega)
  · exact Or.inl (by omega)
  · exact Or.inl (by omega)
  · exact Or.inr ⟨by omega, h1'.trans h2'⟩
theorem Bf.irr {a : Nat} (h : Bf a a) : False := by
  rcases h with h | ⟨-, h⟩
  · omega
  · exact h.irr
def sPr (f t w : Nat → Int32) (m v u : Nat) (wt : Int) (s : Nat) : Prop := cnt 16 s.testBit ≤ 3 ∧ GS f t w m v u wt s
def sIv (f t w : Nat → Int32) (m v u : Nat) (wt : Int) (out : Nat) (best : Int32) : Prop := (best = -4 ∧ ∀ s, s < out → ¬ sPr f t w m v u wt s) ∨ ∃ s0, best = nI s0 ∧ s0 < out ∧ sPr f t w m v u wt s0 ∧ ∀ s, s < out → sPr f t w m v u wt s → s = s0 ∨ Bf s0 s
section
variable {n m : Nat} {Nk Nf Nt Nw now : Nat → Int32}
theorem clC (hS : SM n m Nk Nf Nt Nw now) {u v : Nat} (hu : u < n) (hv : v < n) {wt : Int32} (hw1 : -10 ≤ wt.toInt) (hw2 : wt.toInt ≤ 10) (s : Nat) (R0 e0 : Nat → Int32) : ∃ R e, p_X7_findBut (nI n) now R0 e0 (nI s) = some (R, e) ∧ ((GS Nf Nt Nw m v u wt.toInt s ∧ p_X7_clashes (R (10 * v + u)) wt = some 0) ∨ (¬ GS Nf Nt Nw m v u wt.toInt s ∧ p_X7_clashes (R (10 * v + u)) wt = some 1)) := by
  have hn := hS.n10
  have hg := hS.2.2.2.1
  obtain ⟨R, e, h1, h2⟩ := hS.findBut (nI s) R0 e0
  refine ⟨R, e, h1, ?_⟩
  unfold p_X7_clashes
  rcases h2 v u hv hu with ⟨d, q1, q2⟩ | ⟨q1, q2⟩
  · have hd := q1.bd (hg.inV _) (hS.2.2.2.2.sub Ed_sub) (hg.ten _) hn hv
    have es : (R (10 * v + u) + wt).toInt = d + wt.toInt := by rw [tadd (by omega) (by omega), q2]
    rw [isWay_yes (by omega), bsome, z0]
    by_cases c : R (10 * v + u) + wt ≤ 0
    · rw [if_pos c]
      have c' := tle.mp c
      rw [es, tlit0] at c'
      exact Or.inl ⟨fun k d' hk => by have := q1.2 _ _ hk; omega, rfl⟩
    · rw [if_neg c]
      refine Or.inr ⟨fun hG => c (tle.mpr ?_), rfl⟩
      obtain ⟨⟨k, hk⟩, -⟩ := q1
      have := hG k d hk
      rw [es, tlit0]
      exact this
  · rw [isWay_no (by rw [q2, tFAR]; omega), bsome, z1]
    exact Or.inl ⟨fun k d' hk => (q1 _ _ hk).elim, rfl⟩
theorem p16 : ∀ m, m ≤ 16 → 2 ^ m ≤ 65536 := by decide
theorem sm_loop (hS : SM n m Nk Nf Nt Nw now) {u v : Nat} (hu : u < n) (hv : v < n) {wt : Int32} (hw1 : -10 ≤ wt.toInt) (hw2 : wt.toInt ≤ 10) (a2 a4 : Int32) : ∀ (r out fuel : Nat) (best : Int32) (R e : Nat → Int32), out + r = 2 ^ m → r < fuel → sIv Nf Nt Nw m v u wt.toInt out best → ∃ best' R' e', q_X7_stands_60 (nI n) now (nI u) a2 (nI v) a4 fuel (nI out) best wt R e = q_X7_stands_176 (nI n) now (nI u) a2 (nI v) a4 best' R' e' ∧ sIv Nf Nt Nw m v u wt.toInt (2 ^ m) best'
  | r, out, 0, best, R, e, _, hf, _ => absurd hf (Nat.not_lt_zero _)
  | r, out, fuel + 1, best, R, e, ho, hf, h => by
    have hn := hS.n10
    have hm := hS.m16
    have h16 := p16 m hm
    have e0 : rd now 59 10 = some (nI m) := by rw [show rd now 59 10 = some (now 10) from rd_nI (k := 10) (by omega) (by omega), hS.1]
    rw [q_X7_stands_60.eq_2, e0, bsome, shl1 m (by omega)]
    cases r with
    | zero =>
      rw [if_pos ((nIle (by omega) (by omega)).mpr (by omega))]
      have : out = 2 ^ m := by omega
      subst this
      exact ⟨best, R, e, rfl, h⟩
    | succ r =>
      rw [if_neg (nI_ge (a := out) (b := 2 ^ m) (by omega) (by omega)), ones_ok (by omega), bsome]
      have go := fun best R e hb => sm_loop hS hu hv hw1 hw2 a2 a4 r (out + 1) fuel best R e (by omega) (by omega) hb
      -- what a set that isn't looked at means
      have skip : (sPr Nf Nt Nw m v u wt.toInt out → ∃ s0, best = nI s0 ∧ s0 < 65536 ∧ Bf s0 out) → ∃ best' R' e', q_X7_stands_128 (nI n) now (nI u) a2 (nI v) a4 (q_X7_stands_60 (nI n) now (nI u) a2 (nI v) a4 fuel) (nI out) best wt R e = q_X7_stands_176 (nI n) now (nI u) a2 (nI v) a4 best' R' e' ∧ sIv Nf Nt Nw m v u wt.toInt (2 ^ m) best' := fun hsk => by
        unfold q_X7_stands_128 q_X7_stands_129
        rw [if_pos rfl, nI1]
        refine go best R e ?_
        rcases h with ⟨g1, g2⟩ | ⟨s0, g1, g2, g3, g4⟩
        · refine Or.inl ⟨g1, fun s hs hP => ?_⟩
          by_cases c : s = out
          · subst c
            obtain ⟨s0, q1, q2, -⟩ := hsk hP
            have := teq.mp (q1.symm.trans g1)
            rw [tnI (by omega), show (-4 : Int32).toInt = -4 by decide] at this
            omega
          · exact g2 s (by omega) hP
        · refine Or.inr ⟨s0, g1, by omega, g3, fun s hs hP => ?_⟩
          by_cases c : s = out
          · subst c
            obtain ⟨s1, q1, q2, q3⟩ := hsk hP
            have : s1 = s0 := (nI_inj (by omega) (by omega)).mp (q1.symm.trans g1)
            subst this
            exact Or.inr q3
          · exact g4 s (by omega) hP
      by_cases c4 : 4 ≤ cnt 16 out.testBit
      · have hb : cnt 16 out.testBit ≤ 16 := by
          have := cnt_le (g := out.testBit) (g' := fun _ => true) 16 (fun _ _ _ => rfl)
          exact Nat.le_trans this (by decide)
        rw [if_pos (show (4 : Int32) ≤ nI (cnt 16 out.testBit) from nI_le (a := 4) (b := cnt 16 out.testBit) (by omega) (by omega))]
        exact skip (fun hP => by have := hP.1; omega)
      · rw [if_neg (show ¬ (4 : Int32) ≤ nI (cnt 16 out.testBit) from nI_ge (a := cnt 16 out.testBit) (b := 4) (by omega) (by omega))]
        -- a set that is looked at
        have look : (∀ s0, best = nI s0 → s0 < out → Bf out s0) → ∃ best' R' e', q_X7_stands_124 (nI n) now (nI u) a2 (nI v) a4 (q_X7_stands_60 (nI n) now (nI u) a2 (nI v) a4 fuel) (nI out) best wt R e = q_X7_stands_176 (nI n) now (nI u) a2 (nI v) a4 best' R' e' ∧ sIv Nf Nt Nw m v u wt.toInt (2 ^ m) best' := fun hlk => by
          obtain ⟨R1, e1, f1, f2⟩ := clC hS hu hv hw1 hw2 out R e
          have r1 : rd R1 100 (10 * nI v + nI u) = some (R1 (10 * v + u)) := by rw [ten, rd_nI (by omega) (by omega)]
          unfold q_X7_stands_124 q_X7_stands_129
          rw [if_neg (by decide), f1]
          rcases f2 with ⟨f2, f3⟩ | ⟨f2, f3⟩
          · simp only [bsome, r1, f3, z1, nI1]
            refine go (nI out) R1 e1 (Or.inr ⟨out, rfl, by omega, ⟨by omega, f2⟩, fun s hs hP => ?_⟩)
            by_cases c : s = out
            · exact Or.inl c
            · rcases h with ⟨g1, g2⟩ | ⟨s0, g1, g2, g3, g4⟩
              · exact (g2 s (by omega) hP).elim
              · have b1 := hlk s0 g1 g2
                rcases g4 s (by omega) hP with q | q
                · subst q; exact Or.inr b1
                · exact Or.inr (b1.trans q)
          · simp only [bsome, r1, f3, z0, nI1]
            refine go best R1 e1 ?_
            rcases h with ⟨g1, g2⟩ | ⟨s0, g1, g2, g3, g4⟩
            · refine Or.inl ⟨g1, fun s hs hP => ?_⟩
              by_cases c : s = out
              · subst c; exact f2 hP.2
              · exact g2 s (by omega) hP
            · refine Or.inr ⟨s0, g1, by omega, g3, fun s hs hP => ?_⟩
              by_cases c : s = out
              · subst c; exact (f2 hP.2).elim
              · exact g4 s (by omega) hP
        by_cases cb : best = -4
        · rw [if_pos cb]
          refine look (fun s0 q1 q2 => ?_)
          have := teq.mp (q1.symm.trans cb)
          rw [tnI (by omega), show (-4 : Int32).toInt = -4 by decide] at this
          omega
        · rw [if_neg cb]
          rcases id h with ⟨g1, -⟩ | ⟨s0, g1, g2, g3, g4⟩
          · exact (cb g1).elim
          · have hc0 := g3.1
            rw [g1, ones_ok (by omega), bsome, bsome]
            rw [g1] at look skip
            have same : ∀ s1, nI s0 = nI s1 → s1 < out → s1 = s0 := fun s1 q1 q2 => ((nI_inj (by omega) (by omega)).mp q1).symm
            by_cases c1 : cnt 16 out.testBit < cnt 16 s0.testBit
            · rw [if_pos (nI_lt (by omega) (by omega))]
              exact look (fun s1 q1 q2 => by rw [same s1 q1 q2]; exact Or.inl c1)
            · rw [if_neg (fun q => c1 ((nIlt (by omega) (by omega)).mp q))]
              by_cases c2 : cnt 16 out.testBit = cnt 16 s0.testBit
              · rw [if_pos (by rw [c2])]
                rcases ahead_ok (a := out) (b := s0) (by omega) (by omega) (by omega) with ⟨k1, k2⟩ | ⟨k1, k2⟩
                · rw [k2, bsome, z0]
                  exact look (fun s1 q1 q2 => by rw [same s1 q1 q2]; exact Or.inr ⟨c2, k1⟩)
                · rw [k2, bsome, z1]
                  exact skip (fun _ => ⟨s0, rfl, by omega, Or.inr ⟨c2.symm, k1⟩⟩)
              · rw [if_neg (fun q => c2 ((nI_inj (by omega) (by omega)).mp q))]
                exact skip (fun _ => ⟨s0, rfl, by omega, Or.inl (by omega)⟩)
end
