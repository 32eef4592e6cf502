/-! numbers: int against Int, reading and writing by places -/
theorem tlt {a b : Int32} : a < b ↔ a.toInt < b.toInt := Int32.lt_iff_toInt_lt
theorem tle {a b : Int32} : a ≤ b ↔ a.toInt ≤ b.toInt := Int32.le_iff_toInt_le
theorem teq {a b : Int32} : a = b ↔ a.toInt = b.toInt := Int32.toInt_inj.symm
theorem bm {x : Int} (h1 : -2147483648 ≤ x) (h2 : x < 2147483648) : x.bmod (2 ^ 32) = x := by
  rw [Int.bmod_def]
  omega
theorem tadd {a b : Int32} (h1 : -2147483648 ≤ a.toInt + b.toInt) (h2 : a.toInt + b.toInt < 2147483648) : (a + b).toInt = a.toInt + b.toInt := by
  rw [Int32.toInt_add]; exact bm h1 h2
theorem tsub {a b : Int32} (h1 : -2147483648 ≤ a.toInt - b.toInt) (h2 : a.toInt - b.toInt < 2147483648) : (a - b).toInt = a.toInt - b.toInt := by
  rw [Int32.toInt_sub]; exact bm h1 h2
theorem tmul {a b : Int32} (h1 : -2147483648 ≤ a.toInt * b.toInt) (h2 : a.toInt * b.toInt < 2147483648) : (a * b).toInt = a.toInt * b.toInt := by
  rw [Int32.toInt_mul]; exact bm h1 h2
theorem tneg {a : Int32} (h1 : -2147483648 < a.toInt) : (-a).toInt = -a.toInt := by
  rw [Int32.toInt_neg]
  have := Int32.toInt_lt a
  exact bm (by omega) (by omega)
theorem trange (a : Int32) : -2147483648 ≤ a.toInt ∧ a.toInt < 2147483648 := ⟨Int32.le_toInt a, Int32.toInt_lt a⟩
theorem tnI {n : Nat} (h : n < 2147483648) : (nI n).toInt = (n : Int) := nI_toInt h
theorem nI_of_toInt {x : Int32} {n : Nat} (h : x.toInt = n) (hn : n < 2147483648) : x = nI n := teq.mpr (by rw [h, tnI hn])
theorem nIadd (a b : Nat) : nI a + nI b = nI (a + b) := nI_add a b
theorem nI1 (a : Nat) : nI a + 1 = nI (a + 1) := nI_1 a
theorem nI_inj {a b : Nat} (ha : a < 2147483648) (hb : b < 2147483648) : nI a = nI b ↔ a = b := nI_eq ha hb
theorem nIle {a b : Nat} (ha : a < 2147483648) (hb : b < 2147483648) : nI a ≤ nI b ↔ a ≤ b := nI_leI ha hb
theorem nIlt {a b : Nat} (ha : a < 2147483648) (hb : b < 2147483648) : nI a < nI b ↔ a < b := nI_ltI ha hb
theorem clampI {n : Nat} (h : n < 2147483648) : (nI n).toNatClampNeg = n := nI_clamp h
theorem rd_nI {f : Nat → Int32} {n k : Nat} (h : k < n) (hn : n < 2147483648) : rd f n (nI k) = some (f k) := by
  unfold rd
  rw [if_neg (nI_in h hn), clampI (by omega)]
theorem wr_nI {f : Nat → Int32} {n k : Nat} {x : Int32} (h : k < n) (hn : n < 2147483648) : wr f n (nI k) x = some (upd f k x) := by
  unfold wr
  rw [if_neg (nI_in h hn), clampI (by omega)]
theorem ix_nI {n k : Nat} (h : k < n) (hn : n < 2147483648) : ix n (nI k) = some k := by
  unfold ix
  rw [if_neg (nI_in h hn), clampI (by omega)]
theorem rd_at {f : Nat → Int32} {n k : Nat} {i : Int32} (hi : i = nI k) (h : k < n) (hn : n < 2147483648) : rd f n i = some (f k) := by rw [hi]; exact rd_nI h hn
theorem wr_at {f : Nat → Int32} {n k : Nat} {i x : Int32} (hi : i = nI k) (h : k < n) (hn : n < 2147483648) : wr f n i x = some (upd f k x) := by rw [hi]; exact wr_nI h hn
theorem ix_at {n k : Nat} {i : Int32} (hi : i = nI k) (h : k < n) (hn : n < 2147483648) : ix n i = some k := by rw [hi]; exact ix_nI h hn
theorem bsome {α β : Type} {a : α} {k : α → Option β} : (some a).bind k = k a := rfl
theorem updS (f : Nat → Int32) (k : Nat) (x : Int32) : upd f k x k = x := by simp [upd]
theorem updN {f : Nat → Int32} {k j : Nat} {x : Int32} (h : j ≠ k) : upd f k x j = f j := by simp [upd, h]
theorem tlit0 : (0 : Int32).toInt = 0 := rfl
theorem tlit1 : (1 : Int32).toInt = 1 := rfl
theorem tNW : (-1000000 : Int32).toInt = -1000000 := by decide
theorem tFAR : (-100000 : Int32).toInt = -100000 := by decide
theorem FUeq (k : Nat) (h : k ≤ 70000) : ∃ r, FU = r + k := ⟨70000 - k, by unfold FU; omega⟩
