/-! walks over a relation E x y d (a step from x to y of length d) -/
def Wk (E : Nat → Nat → Int → Prop) : Nat → Nat → Nat → Int → Prop
  | 0, u, v, d => u = v ∧ d = 0
  | k + 1, u, v, d => ∃ (y : Nat) (d1 : Int), E u y d1 ∧ Wk E k y v (d - d1)
def NPC (E : Nat → Nat → Int → Prop) : Prop := ∀ (k u : Nat) (d : Int), Wk E k u u d → d ≤ 0
def Mx (E : Nat → Nat → Int → Prop) (u v : Nat) (d : Int) : Prop := (∃ k, Wk E k u v d) ∧ ∀ (k : Nat) (d' : Int), Wk E k u v d' → d' ≤ d
def NoW (E : Nat → Nat → Int → Prop) (u v : Nat) : Prop := ∀ (k : Nat) (d : Int), ¬ Wk E k u v d
theorem Mx.uniq {E : Nat → Nat → Int → Prop} {u v : Nat} {d e : Int} (h1 : Mx E u v d) (h2 : Mx E u v e) : d = e := by
  obtain ⟨⟨k, hk⟩, h1⟩ := h1
  obtain ⟨⟨j, hj⟩, h2⟩ := h2
  have := h1 _ _ hj
  have := h2 _ _ hk
  omega
theorem Mx.not {E : Nat → Nat → Int → Prop} {u v : Nat} {d : Int} (h1 : Mx E u v d) (h2 : NoW E u v) : False := by
  obtain ⟨⟨k, hk⟩, -⟩ := h1
  exact h2 k d hk
theorem Wk.cat {E : Nat → Nat → Int → Prop} : ∀ {k j u x v : Nat} {d e : Int}, Wk E k u x d → Wk E j x v e → Wk E (k + j) u v (d + e)
  | 0, j, u, x, v, d, e, h1, h2 => by
    obtain ⟨rfl, rfl⟩ := h1
    rw [Nat.zero_add, Int.zero_add]
    exact h2
  | k + 1, j, u, x, v, d, e, h1, h2 => by
    obtain ⟨y, d1, h3, h4⟩ := h1
    rw [show k + 1 + j = (k + j) + 1 by omega]
    refine ⟨y, d1, h3, ?_⟩
    rw [show d + e - d1 = (d - d1) + e by omega]
    exact Wk.cat h4 h2
theorem Wk.one {E : Nat → Nat → Int → Prop} {u v : Nat} {d : Int} (h : E u v d) : Wk E 1 u v d := ⟨v, d, h, rfl, by omega⟩
theorem Wk.snoc {E : Nat → Nat → Int → Prop} {k u x v : Nat} {d e : Int} (h1 : Wk E k u x d) (h2 : E x v e) : Wk E (k + 1) u v (d + e) := h1.cat (Wk.one h2)
theorem Wk.last {E : Nat → Nat → Int → Prop} : ∀ {k u v : Nat} {d : Int}, Wk E (k + 1) u v d → ∃ (x : Nat) (e : Int), Wk E k u x (d - e) ∧ E x v e
  | 0, u, v, d, h => by
    obtain ⟨y, d1, h1, h2, h3⟩ := h
    subst h2
    exact ⟨u, d1, ⟨rfl, by omega⟩, h1⟩
  | k + 1, u, v, d, h => by
    obtain ⟨y, d1, h1, h2⟩ := h
    obtain ⟨x, e, h3, h4⟩ := Wk.last h2
    refine ⟨x, e, ⟨y, d1, h1, ?_⟩, h4⟩
    rw [show d - e - d1 = d - d1 - e by omega]
    exact h3
theorem Wk.mono {E F : Nat → Nat → Int → Prop} (hEF : ∀ x y d, E x y d → F x y d) : ∀ {k u v : Nat} {d : Int}, Wk E k u v d → Wk F k u v d
  | 0, _, _, _, h => h
  | k + 1, u, v, d, h => by
    obtain ⟨y, d1, h1, h2⟩ := h
    exact ⟨y, d1, hEF _ _ _ h1, Wk.mono hEF h2⟩
/-- the places and the lengths on the way -/
theorem Wk.path {E : Nat → Nat → Int → Prop} : ∀ {k u v : Nat} {d : Int}, Wk E k u v d → ∃ (f : Nat → Nat) (g : Nat → Int), f 0 = u ∧ f k = v ∧ g 0 = 0 ∧ g k = d ∧ ∀ i, i < k → E (f i) (f (i + 1)) (g (i + 1) - g i)
  | 0, u, v, d, h => by
    obtain ⟨rfl, rfl⟩ := h
    exact ⟨fun _ => u, fun _ => 0, rfl, rfl, rfl, rfl, fun i hi => absurd hi (Nat.not_lt_zero i)⟩
  | k + 1, u, v, d, h => by
    obtain ⟨y, d1, h1, h2⟩ := h
    obtain ⟨f, g, a1, a2, a3, a4, a5⟩ := Wk.path h2
    refine ⟨fun i => match i with | 0 => u | j + 1 => f j, fun i => match i with | 0 => 0 | j + 1 => g j + d1, rfl, a2, rfl, by show g k + d1 = d; omega, fun i hi => ?_⟩
    cases i with
    | zero => show E u (f 0) (g 0 + d1 - 0); rw [a1, a3, show (0 : Int) + d1 - 0 = d1 by omega]; exact h1
    | succ j =>
      show E (f j) (f (j + 1)) (g (j + 1) + d1 - (g j + d1))
      rw [show g (j + 1) + d1 - (g j + d1) = g (j + 1) - g j by omega]
      exact a5 j (by omega)
theorem Wk.seg {E : Nat → Nat → Int → Prop} {f : Nat → Nat} {g : Nat → Int} {k : Nat} (h : ∀ i, i < k → E (f i) (f (i + 1)) (g (i + 1) - g i)) (i : Nat) : ∀ j, i + j ≤ k → Wk E j (f i) (f (i + j)) (g (i + j) - g i)
  | 0, _ => ⟨rfl, by simp⟩
  | j + 1, hj => by
    have h1 := Wk.seg h i j (by omega)
    have h2 := h (i + j) (by omega)
    have h3 := h1.snoc h2
    rw [show g (i + j) - g i + (g (i + j + 1) - g (i + j)) = g (i + j + 1) - g i by omega] at h3
    exact h3
def InV (E : Nat → Nat → Int → Prop) (n : Nat) : Prop := ∀ x y d, E x y d → x < n ∧ y < n
theorem wk_holes : ∀ (m n : Nat) (f : Nat → Nat), (∀ i, i < n → f i < m) → m < n → ∃ i j, i < j ∧ j < n ∧ f i = f j
  | 0, n, f, h, hm => absurd (h 0 hm) (Nat.not_lt_zero _)
  | m + 1, n, f, h, hm => by
    -- the last place's value v: if met earlier, done; else map m to v
    obtain ⟨n, rfl⟩ : ∃ q, n = q + 1 := ⟨n - 1, by omega⟩
    by_cases hx : ∃ i, i < n ∧ f i = f n
    · obtain ⟨i, h1, h2⟩ := hx
      exact ⟨i, n, h1, by omega, h2⟩
    · obtain ⟨i, j, h1, h2, h3⟩ := wk_holes m n (fun i => if f i = m then f n else f i) (fun i hi => by
        by_cases hc : f i = m
        · simp only [hc, if_true]
          have h4 := h n (by omega)
          have h5 : f n ≠ m := fun q => hx ⟨i, hi, by rw [hc, q]⟩
          omega
        · simp only [hc, if_false]
          have := h i (by omega)
          omega) (by omega)
      refine ⟨i, j, h1, by omega, ?_⟩
      have hi : f i ≠ f n := fun q => hx ⟨i, by omega, q⟩
      have hj : f j ≠ f n := fun q => hx ⟨j, h2, q⟩
      by_cases c1 : f i = m <;> by_cases c2 : f j = m
      · rw [c1, c2]
      · simp only [c1, c2, if_true, if_false] at h3
        exact absurd h3.symm hj
      · simp only [c1, c2, if_true, if_false] at h3
        exact absurd h3 hi
      · simp only [c1, c2, if_false] at h3
        exact h3
/-- every walk is no longer than one of fewer than n steps -/
theorem Wk.short {E : Nat → Nat → Int → Prop} {n : Nat} (hV : InV E n) (hN : NPC E) : ∀ (k u v : Nat) (d : Int), u < n → Wk E k u v d → ∃ (k' : Nat) (d' : Int), k' < n ∧ d ≤ d' ∧ Wk E k' u v d' := by
  intro k
  induction k using Nat.strongRecOn with
  | _ k ih =>
    intro u v d hu h
    by_cases hk : k < n
    · exact ⟨k, d, hk, Int.le_refl _, h⟩
    · obtain ⟨f, g, a1, a2, a3, a4, a5⟩ := h.path
      have hf : ∀ i, i < k + 1 → f i < n := fun i hi => by
        cases i with
        | zero => rw [a1]; exact hu
        | succ j => exact (hV _ _ _ (a5 j (by omega))).2
      obtain ⟨i, j, h1, h2, h3⟩ := wk_holes n (k + 1) f hf (by omega)
      have s1 := Wk.seg a5 0 i (by omega)
      have s2 := Wk.seg a5 i (j - i) (by omega)
      have s3 := Wk.seg a5 j (k - j) (by omega)
      rw [Nat.zero_add, a1, a3, Int.sub_zero] at s1
      rw [show i + (j - i) = j by omega, ← h3] at s2
      rw [show j + (k - j) = k by omega, a2, a4, ← h3] at s3
      have hc := hN _ _ _ s2
      have s4 := s1.cat s3
      obtain ⟨k', d', b1, b2, b3⟩ := ih (i + (k - j)) (by omega) u v _ hu s4
      exact ⟨k', d', b1, by omega, b3⟩
/-- a bound adds at most so much a step -/
theorem Wk.bd {E : Nat → Nat → Int → Prop} {B : Int} (hB : ∀ x y d, E x y d → -B ≤ d ∧ d ≤ B) : ∀ {k u v : Nat} {d : Int}, Wk E k u v d → -(k * B) ≤ d ∧ d ≤ k * B
  | 0, _, _, _, h => by obtain ⟨-, rfl⟩ := h; simp
  | k + 1, u, v, d, h => by
    obtain ⟨y, d1, h1, h2⟩ := h
    have h3 := Wk.bd hB h2
    have h4 := hB _ _ _ h1
    have e : ((k + 1 : Nat) : Int) * B = k * B + B := by rw [Int.natCast_add, Int.add_mul]; simp
    rw [e]
    omega
theorem Mx.bd {E : Nat → Nat → Int → Prop} {n u v : Nat} {d : Int} (hV : InV E n) (hN : NPC E) (hB : ∀ x y d, E x y d → -10 ≤ d ∧ d ≤ 10) (hn : n ≤ 10) (hu : u < n) (h : Mx E u v d) : -100 ≤ d ∧ d ≤ 100 := by
  obtain ⟨⟨k, hk⟩, h2⟩ := h
  obtain ⟨k', d', b1, b2, b3⟩ := Wk.short hV hN k u v d hu hk
  have h3 := h2 _ _ b3
  have h4 := Wk.bd hB b3
  omega
theorem Mx.self {E : Nat → Nat → Int → Prop} (hN : NPC E) (u : Nat) : Mx E u u 0 := ⟨⟨0, rfl, rfl⟩, fun k d h => hN k u d h⟩
/-- where there is a walk there is a longest one -/
theorem Mx.ex {E : Nat → Nat → Int → Prop} {n u v : Nat} (hV : InV E n) (hN : NPC E) (hB : ∀ x y d, E x y d → -10 ≤ d ∧ d ≤ 10) (hu : u < n) (h : ¬ NoW E u v) : ∃ d, Mx E u v d := by
  have h : ∃ k d, Wk E k u v d := Classical.byContradiction fun q => h fun k d hk => q ⟨k, d, hk⟩
  obtain ⟨k, d, hk⟩ := h
  -- the lengths are at most n * 10: go up from d
  have up : ∀ (r : Nat) (d : Int), (n : Int) * 10 - d < r → (∃ k, Wk E k u v d) → ∃ e, Mx E u v e := by
    intro r
    induction r with
    | zero =>
      intro d hd hk
      obtain ⟨k, hk⟩ := hk
      obtain ⟨k', d', b1, b2, b3⟩ := Wk.short hV hN k u v d hu hk
      have h4 := Wk.bd hB b3
      have h5 : (k' : Int) * 10 ≤ n * 10 := by omega
      omega
    | succ r ih =>
      intro d hd hk
      by_cases hc : ∃ (j : Nat) (e : Int), Wk E j u v e ∧ d < e
      · obtain ⟨j, e, h1, h2⟩ := hc
        exact ih e (by omega) ⟨j, h1⟩
      · exact ⟨d, hk, fun j e he => Int.not_lt.mp fun q => hc ⟨j, e, he, q⟩⟩
  exact up ((n : Int) * 10 - d + 1).toNat d (by omega) ⟨k, hk⟩
