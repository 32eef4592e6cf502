/-! int[10][10]: the kit has no row for multianewarray. An outer row of ten, then ten rows, each entered at its place. -/
def grO (h i : Nat) : Nat → Value := fun j => if j < i then .ref (h + 1 + j) else .null
def grS (T : State) (cA cB : ClassId) : Nat → State
  | 0 => T.pushCell (arrV cA 10 (grO T.heap.size 0))
  | i + 1 => ((grS T cA cB i).pushCell (arrV cB 10 (fun _ => .int 0))).setCell T.heap.size (arrV cA 10 (grO T.heap.size (i + 1)))
theorem grO_next (cA : ClassId) (h i : Nat) : (arrV cA 10 (grO h i)).setSlot i (.ref (h + 1 + i)) = arrV cA 10 (grO h (i + 1)) := by
  rw [arrV_store]
  congr 1
  funext j
  unfold updV grO
  by_cases e : j = i
  · subst e; simp
  · by_cases g : j < i
    · simp [e, g, show j < i + 1 by omega]
    · simp [e, g, show ¬ j < i + 1 by omega]
theorem grS_at (T : State) (cA cB : ClassId) : ∀ i, (grS T cA cB i).heap.size = T.heap.size + 1 + i ∧ (grS T cA cB i).heap[T.heap.size]? = some (arrV cA 10 (grO T.heap.size i)) ∧ (grS T cA cB i).vm = T.vm ∧ (grS T cA cB i).slotsUsed = T.slotsUsed + 10 + i * 10
  | 0 => ⟨by simp [grS], by simp [grS], rfl, by simp [grS, arrV_size]⟩
  | i + 1 => by
    obtain ⟨h1, h2, h3, h4⟩ := grS_at T cA cB i
    have hlt : T.heap.size < (grS T cA cB i).heap.size := by omega
    have hc : ((grS T cA cB i).pushCell (arrV cB 10 (fun _ => .int 0))).heap[T.heap.size]? = some (arrV cA 10 (grO T.heap.size i)) := by rw [State.heap_pushCell_of_lt (h := hlt)]; exact h2
    refine ⟨?_, State.heap_setCell_self hc, by simp [grS, h3], ?_⟩
    · simp [grS, State.setCell, h1]; omega
    · simp [grS, h4, arrV_size]; omega
theorem grS_top (T : State) (g : JFrame) (cA cB : ClassId) : ∀ i, grS (T.setTop g) cA cB i = (grS T cA cB i).setTop g
  | 0 => rfl
  | i + 1 => by simp only [grS, grS_top T g cA cB i, State.heap_setTop, State.pushCell_setTop, State.setCell_setTop]
theorem grS_old (T : State) (cA cB : ClassId) {a : Nat} (ha : a < T.heap.size) : ∀ i, (grS T cA cB i).heap[a]? = T.heap[a]?
  | 0 => State.heap_pushCell_of_lt _ _ ha
  | i + 1 => by
    have h1 := (grS_at T cA cB i).1
    show (((grS T cA cB i).pushCell _).setCell T.heap.size _).heap[a]? = _
    have hlt : a < (grS T cA cB i).heap.size := by omega
    rw [State.heap_setCell_other (Nat.ne_of_gt ha), State.heap_pushCell_of_lt (h := hlt)]
    exact grS_old T cA cB ha i
theorem grS_row (T : State) (cA cB : ClassId) : ∀ i j, j < i → (grS T cA cB i).heap[T.heap.size + 1 + j]? = some (arrV cB 10 (fun _ => .int 0))
  | 0, _, h => absurd h (Nat.not_lt_zero _)
  | i + 1, j, h => by
    have h1 := (grS_at T cA cB i).1
    show (((grS T cA cB i).pushCell _).setCell T.heap.size _).heap[T.heap.size + 1 + j]? = _
    rw [State.heap_setCell_other (show T.heap.size ≠ T.heap.size + 1 + j by omega)]
    by_cases e : j < i
    · have hlt : T.heap.size + 1 + j < (grS T cA cB i).heap.size := by omega
      rw [State.heap_pushCell_of_lt (h := hlt)]
      exact grS_row T cA cB i j e
    · rw [show T.heap.size + 1 + j = (grS T cA cB i).heap.size by omega]
      exact State.heap_pushCell_size _ _
theorem grS_stand {p : Program} {l : Launch} {e : Env} {R : Room} {s : State} {m : MethodId} {args : Array Value} {below : List Frame} {meth : Method} {c : Code} {T : State} {locs : List Loc} {cells slots : Nat} (X : Stand p l e R s m args below meth c T locs cells slots) (cA cB : ClassId) :
    ∀ i, Stand p l e R s m args below meth c (grS T cA cB i) (locs ++ (List.range i).map fun j => ⟨T.heap.size, j⟩) (cells + 1 + i) (slots + 10 + i * 10)
  | 0 => by
    have h := X.pushed (arrV cA 10 (grO T.heap.size 0))
    rw [arrV_size] at h
    simpa [grS] using h
  | i + 1 => by
    have h0 := grS_stand X cA cB i
    obtain ⟨h1, h2, h3, h4⟩ := grS_at T cA cB i
    have hlt : T.heap.size < (grS T cA cB i).heap.size := by omega
    have hc : ((grS T cA cB i).pushCell (arrV cB 10 (fun _ => .int 0))).heap[T.heap.size]? = some (arrV cA 10 (grO T.heap.size i)) := by rw [State.heap_pushCell_of_lt (h := hlt)]; exact h2
    have h := (h0.pushed (arrV cB 10 (fun _ => .int 0))).stored hc i (.ref (T.heap.size + 1 + i))
    rw [arrV_size, grO_next] at h
    have e2 : (locs ++ (List.range (i + 1)).map fun j => (⟨T.heap.size, j⟩ : Loc)) = (locs ++ (List.range i).map fun j => (⟨T.heap.size, j⟩ : Loc)) ++ [⟨T.heap.size, i⟩] := by simp [List.range_succ, List.append_assoc]
    rw [e2, show slots + 10 + (i + 1) * 10 = slots + 10 + i * 10 + 10 by omega]
    exact h
section GR
variable {E : CtlPost} {e : Env} {d : Bool} {acts : List Action} {s : State}
theorem gr_array {c comp : ClassId} {k : Class} {type : FieldType} {init : Value} (hk : s.vm.classes[c]? = some k) (hkind : k.kind = .array comp type) (hlimit : ¬ 10 > e.platform.arrayLengthLimit) (hheap : ¬ 10 * componentBytes type > e.platform.maxHeapBytes) (hfit : fits type init = true) (hdef : init.isDefault = true) {Q : Addr → Pre} (h1 : s.heap.size < e.platform.maxCells) (h2 : s.slotsUsed + 10 ≤ e.platform.maxSlots) (hq : Q s.heap.size d acts (s.pushCell (arrV c 10 (fun _ => init)))) : wp (Jvm.newArray c 10 init) Q E e d acts s := by
  have hfits : ∀ i v, (Array.replicate 10 init)[i]? = some v → s.fitsSlot c .none i v = true := by
    intro i v hv
    simp only [Array.getElem?_replicate] at hv
    split at hv
    · cases hv; simp [State.fitsSlot, State.slotType?, hk, hkind, hfit]
    · cases hv
  have hda : allocActs (Array.replicate 10 init) s.heap.size acts = acts := by
    have hall : ((Array.replicate 10 init).all (·.isDefault)) = true := by
      rw [Array.all_replicate]; split <;> simp [hdef]
    unfold allocActs; rw [if_pos hall]
  rw [← arrV_new] at hq
  simp only [Jvm.newArray, Jvm.arrayFits, wp_bind', Jvm.W.ask, Jvm.W.ite, hlimit, if_false, wp_pure', Jvm.W.theClass, hk, hkind, hheap, Jvm.W.alloc, Jvm.W.stop, Option.some.injEq, exists_eq_left', Array.size_replicate, hda]
  rw [if_neg (by omega)]
  exact ⟨h1, h2, hfits, hq⟩
theorem gr_make {c cB cC : ClassId} {k kB : Class} (hk : s.vm.classes[c]? = some k) (hkind : k.kind = .array cB (.array .int)) (hkB : s.vm.classes[cB]? = some kB) (hkindB : kB.kind = .array cC .int)
    (hl1 : ¬ 10 > e.platform.arrayLengthLimit) (hh1 : ¬ 10 * 4 > e.platform.maxHeapBytes) (hc : s.heap.size + 11 ≤ e.platform.maxCells) (hs : s.slotsUsed + 110 ≤ e.platform.maxSlots)
    {Q : Addr → Pre} (hq : ∀ d' acts', Q s.heap.size d' acts' (grS s c cB 10)) : wp (Jvm.Op.multianewarray.make c [10, 10]) Q E e d acts s := by
  have hten : (10 : Int32).toNatClampNeg = 10 := by decide
  have h10 : ¬ (10 : Int32) < 0 := by decide
  have hfind : ([(10 : Int32)].find? (· < 0)) = none := by simp [h10]
  have e0 : arrV c 10 (fun _ => Value.null) = arrV c 10 (grO s.heap.size 0) := by congr 1
  rw [Jvm.Op.multianewarray.make]
  simp only [wp_bind', Jvm.W.ite, h10, if_false, wp_pure', Jvm.W.theClass, hk, hkind, Option.some.injEq, exists_eq_left', hten]
  refine gr_array hk hkind hl1 hh1 rfl rfl (by omega) (by omega) ?_
  simp only [hfind]
  rw [ite_self, wp_bind', Std.Legacy.Range.forIn_eq_forIn_range']
  have hsz : ([:10] : Std.Legacy.Range).size = 10 := by simp [Std.Legacy.Range.size]
  rw [hsz]
  show wp (forIn (List.range' 0 10 1) PUnit.unit _) _ E e d acts _
  refine wp_forIn_inv (fun rest s' => ∃ i, i ≤ 10 ∧ rest = List.range' i (10 - i) ∧ s' = grS s c cB i) _ _ ⟨0, Nat.zero_le _, rfl, by rw [e0]; rfl⟩ ?_ ?_
  · rintro x rest s' d' acts' Q' ⟨i, hi, hl, rfl⟩ hnext
    have hlt : i < 10 := by
      rcases Nat.lt_or_ge i 10 with h | h
      · exact h
      · rw [show 10 - i = 0 from by omega] at hl; simp at hl
    obtain ⟨rfl, hrest⟩ : x = i ∧ rest = List.range' (i + 1) (10 - (i + 1)) := by
      rw [show 10 - i = (10 - (i + 1)) + 1 from by omega, List.range'_succ] at hl
      exact ⟨(List.cons.inj hl).1, (List.cons.inj hl).2⟩
    obtain ⟨f1, f2, f3, f4⟩ := grS_at s c cB x
    have hlt0 : s.heap.size < (grS s c cB x).heap.size := by rw [f1]; omega
    have hkB' : (grS s c cB x).vm.classes[cB]? = some kB := by rw [f3]; exact hkB
    simp only [wp_bind']
    rw [Jvm.Op.multianewarray.make]
    simp only [wp_bind', Jvm.W.ite, h10, if_false, wp_pure', Jvm.W.theClass, hkB', hkindB, Option.some.injEq, exists_eq_left', hten]
    refine gr_array (s := grS s c cB x) (init := defaultValue .int) hkB' hkindB hl1 hh1 rfl rfl (by rw [f1]; omega) (by rw [f4]; omega) ?_
    simp only [wp_bind', Jvm.W.writeLoc, wp_pure']
    refine ⟨arrV c 10 (grO s.heap.size x), by rw [State.heap_pushCell_of_lt (h := hlt0)]; exact f2, by simp [arrV], by rw [arrV_size]; exact hlt, ?_, hnext _ _ _ ⟨x + 1, hlt, hrest, ?_⟩⟩
    · simp [State.fitsSlot, State.slotType?, arrV, f3, hk, hkind, fits]
    · rw [f1, grO_next]; rfl
  · rintro s' d' acts' ⟨i, hi, hl, rfl⟩
    have hiN : i = 10 := by
      rcases Nat.lt_or_ge i 10 with h | h
      · rw [show 10 - i = (10 - (i + 1)) + 1 from by omega, List.range'_succ] at hl; cases hl
      · omega
    subst hiN
    simp only [wp_pure']
    exact hq _ _
end GR
