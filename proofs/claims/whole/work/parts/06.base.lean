theorem no_some {α : Type} {x : α} {P : Prop} (h : (none : Option α) = some x) : P := by cases h
theorem tb1 {w : Cond} {i : Nat} (h : tables_1_1[i]? = some w) : w ∈ lw_tbl := List.mem_append_right _ (List.mem_append_left _ (List.mem_of_getElem? h))
theorem tb2 {w : Cond} {i : Nat} (h : tables_1_2[i]? = some w) : w ∈ lw_tbl := List.mem_append_right _ (List.mem_append_right _ (List.mem_append_left _ (List.mem_of_getElem? h)))
theorem tb3 {w : Cond} {i : Nat} (h : tables_1_3[i]? = some w) : w ∈ lw_tbl := List.mem_append_right _ (List.mem_append_right _ (List.mem_append_right _ (List.mem_append_left _ (List.mem_of_getElem? h))))
theorem tb4 {w : Cond} {i : Nat} (h : tables_1_4[i]? = some w) : w ∈ lw_tbl := List.mem_append_right _ (List.mem_append_right _ (List.mem_append_right _ (List.mem_append_right _ (List.mem_of_getElem? h))))
theorem tsel {q : MethodName × Nat} {i : Nat} (h : lw_privs[i]? = some q) : Cond.selects q.1.cls q.1 q.1 ∈ lw_tbl := List.mem_append_left _ (List.mem_map.mpr ⟨q, List.mem_of_getElem? h, rfl⟩)
def FU : Nat := 70000
def bz (x : Int32) : Option Int32 := if x = 0 ∨ x = 1 then some x else none
theorem bz_some {x y : Int32} (h : bz x = some y) : x = 0 ∨ x = 1 := by
  unfold bz at h
  by_cases hc : x = 0 ∨ x = 1
  · exact hc
  · rw [if_neg hc] at h; cases h
def ck (n k : Nat) : Option Nat := if k < n then some k else none
theorem ck_lt {n k j : Nat} (h : ck n k = some j) : k < n := by
  unfold ck at h
  by_cases hc : k < n
  · exact hc
  · rw [if_neg hc] at h; cases h
abbrev tysU (cI cS cII : ClassId) : List (ClassId × FieldType) := [(cI, .int), (cS, .object "UniverseLevels$State"), (cII, .array .int)]
def rw10 (cI : ClassId) (ga : Nat → Nat) (G : Nat → Nat → Int32) : va_W := [(ga 0, .inl (cI, 10, .inl (G 0))), (ga 1, .inl (cI, 10, .inl (G 1))), (ga 2, .inl (cI, 10, .inl (G 2))), (ga 3, .inl (cI, 10, .inl (G 3))), (ga 4, .inl (cI, 10, .inl (G 4))), (ga 5, .inl (cI, 10, .inl (G 5))), (ga 6, .inl (cI, 10, .inl (G 6))), (ga 7, .inl (cI, 10, .inl (G 7))), (ga 8, .inl (cI, 10, .inl (G 8))), (ga 9, .inl (cI, 10, .inl (G 9)))]
theorem lt10 {j : Nat} (h : j < 10) : j = 0 ∨ j = 1 ∨ j = 2 ∨ j = 3 ∨ j = 4 ∨ j = 5 ∨ j = 6 ∨ j = 7 ∨ j = 8 ∨ j = 9 := by omega
theorem rw10_get {cI : ClassId} {ga : Nat → Nat} {G : Nat → Nat → Int32} (X : va_W) {j : Nat} (h : j < 10) : (X ++ rw10 cI ga G)[X.length + j]? = some (ga j, .inl (cI, 10, .inl (G j))) := by
  rw [List.getElem?_append_right (Nat.le_add_right _ _), Nat.add_sub_cancel_left]
  rcases lt10 h with rfl | rfl | rfl | rfl | rfl | rfl | rfl | rfl | rfl | rfl <;> rfl
def earW (cI cS : ClassId) (RA : Nat → Nat) (E_p : Nat → Nat) (E_k E_f E_t E_w : Nat → Nat → Int32) (E_l E_b : Nat → Int32) : va_W := [(RA 9, .inl (cS, 8, .inr (.inr (.inr (.inr (fun i => some (RA (E_p i + 37)))))))), (RA 37, .inr (4, [.ref (RA 45), .ref (RA 53), .ref (RA 61), .ref (RA 69), .int (E_l 0), .int (E_b 0)])), (RA 38, .inr (4, [.ref (RA 46), .ref (RA 54), .ref (RA 62), .ref (RA 70), .int (E_l 1), .int (E_b 1)])), (RA 39, .inr (4, [.ref (RA 47), .ref (RA 55), .ref (RA 63), .ref (RA 71), .int (E_l 2), .int (E_b 2)])), (RA 40, .inr (4, [.ref (RA 48), .ref (RA 56), .ref (RA 64), .ref (RA 72), .int (E_l 3), .int (E_b 3)])), (RA 41, .inr (4, [.ref (RA 49), .ref (RA 57), .ref (RA 65), .ref (RA 73), .int (E_l 4), .int (E_b 4)])), (RA 42, .inr (4, [.ref (RA 50), .ref (RA 58), .ref (RA 66), .ref (RA 74), .int (E_l 5), .int (E_b 5)])), (RA 43, .inr (4, [.ref (RA 51), .ref (RA 59), .ref (RA 67), .ref (RA 75), .int (E_l 6), .int (E_b 6)])), (RA 44, .inr (4, [.ref (RA 52), .ref (RA 60), .ref (RA 68), .ref (RA 76), .int (E_l 7), .int (E_b 7)])), (RA 45, .inl (cI, 10, .inl (E_k 0))), (RA 46, .inl (cI, 10, .inl (E_k 1))), (RA 47, .inl (cI, 10, .inl (E_k 2))), (RA 48, .inl (cI, 10, .inl (E_k 3))), (RA 49, .inl (cI, 10, .inl (E_k 4))), (RA 50, .inl (cI, 10, .inl (E_k 5))), (RA 51, .inl (cI, 10, .inl (E_k 6))), (RA 52, .inl (cI, 10, .inl (E_k 7))), (RA 53, .inl (cI, 16, .inl (E_f 0))), (RA 54, .inl (cI, 16, .inl (E_f 1))), (RA 55, .inl (cI, 16, .inl (E_f 2))), (RA 56, .inl (cI, 16, .inl (E_f 3))), (RA 57, .inl (cI, 16, .inl (E_f 4))), (RA 58, .inl (cI, 16, .inl (E_f 5))), (RA 59, .inl (cI, 16, .inl (E_f 6))), (RA 60, .inl (cI, 16, .inl (E_f 7))), (RA 61, .inl (cI, 16, .inl (E_t 0))), (RA 62, .inl (cI, 16, .inl (E_t 1))), (RA 63, .inl (cI, 16, .inl (E_t 2))), (RA 64, .inl (cI, 16, .inl (E_t 3))), (RA 65, .inl (cI, 16, .inl (E_t 4))), (RA 66, .inl (cI, 16, .inl (E_t 5))), (RA 67, .inl (cI, 16, .inl (E_t 6))), (RA 68, .inl (cI, 16, .inl (E_t 7))), (RA 69, .inl (cI, 16, .inl (E_w 0))), (RA 70, .inl (cI, 16, .inl (E_w 1))), (RA 71, .inl (cI, 16, .inl (E_w 2))), (RA 72, .inl (cI, 16, .inl (E_w 3))), (RA 73, .inl (cI, 16, .inl (E_w 4))), (RA 74, .inl (cI, 16, .inl (E_w 5))), (RA 75, .inl (cI, 16, .inl (E_w 6))), (RA 76, .inl (cI, 16, .inl (E_w 7)))]
def keptW (cI cS : ClassId) (RA : Nat → Nat) (K_k K_f K_t K_w : Nat → Nat → Int32) (K_l K_b : Nat → Int32) : va_W := [(RA 10, .inl (cS, 2, .inr (.inr (.inr (.inr (fun i => some (RA (i + 77)))))))), (RA 77, .inr (4, [.ref (RA 79), .ref (RA 81), .ref (RA 83), .ref (RA 85), .int (K_l 0), .int (K_b 0)])), (RA 78, .inr (4, [.ref (RA 80), .ref (RA 82), .ref (RA 84), .ref (RA 86), .int (K_l 1), .int (K_b 1)])), (RA 79, .inl (cI, 10, .inl (K_k 0))), (RA 80, .inl (cI, 10, .inl (K_k 1))), (RA 81, .inl (cI, 16, .inl (K_f 0))), (RA 82, .inl (cI, 16, .inl (K_f 1))), (RA 83, .inl (cI, 16, .inl (K_t 0))), (RA 84, .inl (cI, 16, .inl (K_t 1))), (RA 85, .inl (cI, 16, .inl (K_w 0))), (RA 86, .inl (cI, 16, .inl (K_w 1)))]
theorem lt8 {j : Nat} (h : j < 8) : j = 0 ∨ j = 1 ∨ j = 2 ∨ j = 3 ∨ j = 4 ∨ j = 5 ∨ j = 6 ∨ j = 7 := by omega
theorem lt2 {j : Nat} (h : j < 2) : j = 0 ∨ j = 1 := by omega
theorem up_ear {RA p : Nat → Nat} {j k c : Nat} : va_up (fun i => some (RA (p i + c))) j (some (RA (k + c))) = fun i => some (RA (va_up p j k i + c)) := by
  funext i
  by_cases h : i = j
  · simp [va_up, h]
  · simp [va_up, h]
theorem jj_alen {l : Launch} {cc : ByteArray} {nL : Nat} {D : va_G} {tys : List (ClassId × FieldType)} {own : String} {R : Room} {rt : Option FieldType} {A : Nat → Prop} {ro : Option Int32} {wf : va_W} {J : jT} {ws : va_W} {pc : Nat} {lv : List (Nat × Value)} {st : List Value} (hJ : jJ l cc nL D tys own R rt A ro wf J) {cA : ClassId} {x : vp_A} {a : Nat} {ty : FieldType} {v : Int32} (hd : decode cc pc = .ok (.arraylength, 1)) (q0 t0 : Nat) (ha : ws[q0]? = some (a, .inl (cA, x))) (ht : tys[t0]? = some (cA, ty)) (hv : Int32.ofNat x.1 = v) (kk : J ws (pc + 1) lv (.int v :: st)) : J ws pc lv (.ref a :: st) := by
  obtain ⟨p, e, s, m, args, below, meth, c, hx, hb, hml, ho, hK, hr, hlk, rfl⟩ := hJ
  intro H locs ls hP hD hS hl
  exact va_alen hx hb hK.1 hP q0 t0 ha ht hv hd (kk H locs ls hP hD hS hl)
theorem lay_X0 : ∀ w ∈ u_ws RX0 TX0 4, w ∈ lw_tbl ∧ goodWord w = true := by
  intro w hw
  obtain ⟨k, hk, rfl⟩ := List.mem_map.mp hw
  match k, List.mem_range.mp hk with
  | 0, _ => exact ⟨tb1 (i := 113) rfl, rfl⟩
  | 1, _ => exact ⟨tb1 (i := 115) rfl, rfl⟩
  | 2, _ => exact ⟨tb1 (i := 117) rfl, rfl⟩
  | 3, _ => exact ⟨tb1 (i := 119) rfl, rfl⟩
  | k + 4, h => exact absurd h (by omega)
theorem lay_X1 : ∀ w ∈ u_ws RX1 TX1 2, w ∈ lw_tbl ∧ goodWord w = true := by
  intro w hw
  obtain ⟨k, hk, rfl⟩ := List.mem_map.mp hw
  match k, List.mem_range.mp hk with
  | 0, _ => exact ⟨tb1 (i := 98) rfl, rfl⟩
  | 1, _ => exact ⟨tb1 (i := 100) rfl, rfl⟩
  | k + 2, h => exact absurd h (by omega)
theorem lay_X2 : ∀ w ∈ u_ws RX2 TX2 4, w ∈ lw_tbl ∧ goodWord w = true := by
  intro w hw
  obtain ⟨k, hk, rfl⟩ := List.mem_map.mp hw
  match k, List.mem_range.mp hk with
  | 0, _ => exact ⟨tb1 (i := 153) rfl, rfl⟩
  | 1, _ => exact ⟨tb1 (i := 155) rfl, rfl⟩
  | 2, _ => exact ⟨tb1 (i := 157) rfl, rfl⟩
  | 3, _ => exact ⟨tb1 (i := 159) rfl, rfl⟩
  | k + 4, h => exact absurd h (by omega)
theorem lay_X3 : ∀ w ∈ u_ws RX3 TX3 3, w ∈ lw_tbl ∧ goodWord w = true := by
  intro w hw
  obtain ⟨k, hk, rfl⟩ := List.mem_map.mp hw
  match k, List.mem_range.mp hk with
  | 0, _ => exact ⟨tb1 (i := 134) rfl, rfl⟩
  | 1, _ => exact ⟨tb1 (i := 136) rfl, rfl⟩
  | 2, _ => exact ⟨tb1 (i := 138) rfl, rfl⟩
  | k + 3, h => exact absurd h (by omega)
theorem lay_X4 : ∀ w ∈ u_ws RX4 TX4 6, w ∈ lw_tbl ∧ goodWord w = true := by
  intro w hw
  obtain ⟨k, hk, rfl⟩ := List.mem_map.mp hw
  match k, List.mem_range.mp hk with
  | 0, _ => exact ⟨tb1 (i := 71) rfl, rfl⟩
  | 1, _ => exact ⟨tb1 (i := 73) rfl, rfl⟩
  | 2, _ => exact ⟨tb1 (i := 75) rfl, rfl⟩
  | 3, _ => exact ⟨tb1 (i := 77) rfl, rfl⟩
  | 4, _ => exact ⟨tb1 (i := 79) rfl, rfl⟩
  | 5, _ => exact ⟨tb1 (i := 81) rfl, rfl⟩
  | k + 6, h => exact absurd h (by omega)
theorem lay_X5 : ∀ w ∈ u_ws RX5 TX5 3, w ∈ lw_tbl ∧ goodWord w = true := by
  intro w hw
  obtain ⟨k, hk, rfl⟩ := List.mem_map.mp hw
  match k, List.mem_range.mp hk with
  | 0, _ => exact ⟨tb1 (i := 35) rfl, rfl⟩
  | 1, _ => exact ⟨tb1 (i := 37) rfl, rfl⟩
  | 2, _ => exact ⟨tb1 (i := 39) rfl, rfl⟩
  | k + 3, h => exact absurd h (by omega)
theorem lay_X6 : ∀ w ∈ u_ws RX6 TX6 13, w ∈ lw_tbl ∧ goodWord w = true := by
  intro w hw
  obtain ⟨k, hk, rfl⟩ := List.mem_map.mp hw
  match k, List.mem_range.mp hk with
  | 0, _ => exact ⟨tb2 (i := 87) rfl, rfl⟩
  | 1, _ => exact ⟨tb2 (i := 89) rfl, rfl⟩
  | 2, _ => exact ⟨tb2 (i := 91) rfl, rfl⟩
  | 3, _ => exact ⟨tb2 (i := 93) rfl, rfl⟩
  | 4, _ => exact ⟨tb2 (i := 95) rfl, rfl⟩
  | 5, _ => exact ⟨tb2 (i := 97) rfl, rfl⟩
  | 6, _ => exact ⟨tb2 (i := 99) rfl, rfl⟩
  | 7, _ => exact ⟨tb2 (i := 101) rfl, rfl⟩
  | 8, _ => exact ⟨tb2 (i := 103) rfl, rfl⟩
  | 9, _ => exact ⟨tb2 (i := 105) rfl, rfl⟩
  | 10, _ => exact ⟨tb2 (i := 107) rfl, rfl⟩
  | 11, _ => exact ⟨tb2 (i := 109) rfl, rfl⟩
  | 12, _ => exact ⟨tb2 (i := 111) rfl, rfl⟩
  | k + 13, h => exact absurd h (by omega)
theorem lay_X7 : ∀ w ∈ u_ws RX7 TX7 24, w ∈ lw_tbl ∧ goodWord w = true := by
  intro w hw
  obtain ⟨k, hk, rfl⟩ := List.mem_map.mp hw
  match k, List.mem_range.mp hk with
  | 0, _ => exact ⟨tb3 (i := 198) rfl, rfl⟩
  | 1, _ => exact ⟨tb3 (i := 200) rfl, rfl⟩
  | 2, _ => exact ⟨tb3 (i := 202) rfl, rfl⟩
  | 3, _ => exact ⟨tb3 (i := 204) rfl, rfl⟩
  | 4, _ => exact ⟨tb3 (i := 206) rfl, rfl⟩
  | 5, _ => exact ⟨tb3 (i := 208) rfl, rfl⟩
  | 6, _ => exact ⟨tb3 (i := 210) rfl, rfl⟩
  | 7, _ => exact ⟨tb3 (i := 212) rfl, rfl⟩
  | 8, _ => exact ⟨tb3 (i := 214) rfl, rfl⟩
  | 9, _ => exact ⟨tb3 (i := 216) rfl, rfl⟩
  | 10, _ => exact ⟨tb3 (i := 218) rfl, rfl⟩
  | 11, _ => exact ⟨tb3 (i := 220) rfl, rfl⟩
  | 12, _ => exact ⟨tb3 (i := 222) rfl, rfl⟩
  | 13, _ => exact ⟨tb3 (i := 224) rfl, rfl⟩
  | 14, _ => exact ⟨tb3 (i := 226) rfl, rfl⟩
  | 15, _ => exact ⟨tb3 (i := 228) rfl, rfl⟩
  | 16, _ => exact ⟨tb3 (i := 230) rfl, rfl⟩
  | 17, _ => exact ⟨tb3 (i := 232) rfl, rfl⟩
  | 18, _ => exact ⟨tb3 (i := 234) rfl, rfl⟩
  | 19, _ => exact ⟨tb3 (i := 236) rfl, rfl⟩
  | 20, _ => exact ⟨tb3 (i := 238) rfl, rfl⟩
  | 21, _ => exact ⟨tb4 (i := 0) rfl, rfl⟩
  | 22, _ => exact ⟨tb4 (i := 2) rfl, rfl⟩
  | 23, _ => exact ⟨tb4 (i := 4) rfl, rfl⟩
  | k + 24, h => exact absurd h (by omega)
