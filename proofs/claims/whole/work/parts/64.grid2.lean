theorem gr_step {p : Program} {l : Launch} {e : Env} {R : Room} {s : State} {m : MethodId} {args : Array Value} {below : List Frame} {meth : Method} {c : Code} {T : State} {locs : List Loc} {cells slots : Nat} (X : Stand p l e R s m args below meth c T locs cells slots) (hexec : p.tables.exec = Jvm.exec) {own : String} {index : Nat} (hown : s.vm.findClass own = some m.cls) (hclink : (Cond.classLink own index "[[I").before args s = true) (hover : (Cond.arrayOver (.array .int)).before args s = true) (harr : (Cond.arrayClass .int).before args s = true)
    {g : JFrame} (hg : g.method = m) (hdg : decode c.code g.pc = .ok (.multianewarray index 2, 4)) {rest : List Value} (hstack : g.stack = .int 10 :: .int 10 :: rest) (hcells : cells + 11 ≤ R.cells) (hslots : slots + 110 ≤ R.slots) :
    ∃ (vm₁ : Vm) (cA cB : ClassId), s.WarmedH vm₁ ∧ s.vm.findClass "[[I" = some cA ∧ s.vm.findClass "[I" = some cB ∧ Stand p l e R s m args below meth c (grS (T.setVm vm₁) cA cB 10) (locs ++ (List.range 10).map fun j => ⟨T.heap.size, j⟩) (cells + 11) (slots + 110) ∧
      ∀ target, Steps p.tables e below ((grS (T.setVm vm₁) cA cB 10).setTop { g with pc := g.pc + 4, stack := .ref T.heap.size :: rest }) target → Steps p.tables e below (T.setTop g) target := by
  subst hg
  have hpl : e.platform.magicAccessors = ({} : Platform).magicAccessors := by rw [X.admits.platform]
  obtain ⟨cB, cA, kA, hnB, -, hkA, hkindA, hnA⟩ := arrayOverA_spec hover
  obtain ⟨cB', kB, cC, hnB', hkB, hkindB⟩ := Cond.arrayClass_spec harr
  have hnA' : s.vm.findClass "[[I" = some cA := hnA
  have eB : cB' = cB := Option.some.inj (hnB'.symm.trans hnB)
  subst eB
  obtain ⟨c0, hfc0, hcl⟩ := Cond.classLink_spec hown hclink e.platform hpl
  cases hnA'.symm.trans hfc0
  obtain ⟨hg₁, hwarm₁, hready₁⟩ := State.classEntry (e := e) X.warmed hcl
  generalize T.vm.noted g.method.cls index (.cls cA) = vm₁ at hg₁ hwarm₁ hready₁
  have hal : s.vm.Alike vm₁ := hwarm₁.alike
  obtain ⟨kA₁, hkA₁, heA⟩ := hal.2.2 _ _ hkA
  obtain ⟨kB₁, hkB₁, heB⟩ := hal.2.2 _ _ hkB
  have hkindA₁ : kA₁.kind = .array cB' (.array .int) := by rw [heA]; exact hkindA
  have hkindB₁ : kB₁.kind = .array cC .int := by rw [heB]; exact hkindB
  have X₁ := X.noted hwarm₁
  obtain ⟨hr1, hr2⟩ := X.roomAbove hcells hslots
  have XF := grS_stand X₁ cA cB' 10
  refine ⟨vm₁, cA, cB', hwarm₁, hnA', hnB, XF, fun target hrest => ?_⟩
  have hl1 : ¬ 10 > e.platform.arrayLengthLimit := by rw [Launch.admits_arrayLengthLimit X.admits]; decide
  have hh1 : ¬ 10 * 4 > e.platform.maxHeapBytes := by rw [Launch.admits_maxHeapBytes X.admits]; decide
  jvm_step X.here [hexec, hdg]
  simp only [Jvm.Op.multianewarray.sem, wp_bind', Jvm.W.resolveClassAt_links (State.method?_setTop g X.here.top) hg₁]
  rw [Jvm.W.popN, if_neg (by decide)]
  refine ⟨g, State.topJava?_setTop' (s := T.setVm vm₁) g X.here.top, [.int 10, .int 10], rest, rfl, hstack, ?_⟩
  simp only [List.mapM_cons, List.mapM_nil, wp_bind', wp_pure']
  refine gr_make (k := kA₁) (kB := kB₁) (cB := cB') (cC := cC) hkA₁ hkindA₁ hkB₁ hkindB₁ hl1 hh1 (by show T.heap.size + 11 ≤ _; omega) (by show T.slotsUsed + 110 ≤ _; omega) (fun d' acts' => ?_)
  have eS : ((T.setTop g).setVm vm₁).setTop { g with stack := rest } = (T.setVm vm₁).setTop { g with stack := rest } := by
    show ((T.setVm vm₁).setTop g).setTop _ = _
    rw [State.setTop_setTop]
  rw [eS, grS_top]
  simp only [wp_bind', Jvm.W.mark, Jvm.W.pushRef, State.topJava?_setTop' _ XF.here.top, Option.some.injEq, exists_eq_left', State.setTop_setTop, State.heap_setTop]
  intro acts
  simp [jvm, XF.here.top]
  exact hrest
theorem app_D {A : Nat → Prop} {ws tl : va_W} {n : Nat} (hD : va_D A ws) (hn : ∀ (k : Nat) (q : Nat × va_E), ws[k]? = some q → q.1 < n) (hD2 : va_D (fun q => n ≤ q) tl) (hA : ∀ q : Nat, n ≤ q → A q) : va_D A (ws ++ tl) := by
  have at_ : ∀ (k : Nat) (q : Nat × va_E), (ws ++ tl)[k]? = some q → (k < ws.length ∧ ws[k]? = some q) ∨ (ws.length ≤ k ∧ tl[k - ws.length]? = some q) := by
    intro k q h
    by_cases hkl : k < ws.length
    · rw [List.getElem?_append_left hkl] at h
      exact Or.inl ⟨hkl, h⟩
    · rw [List.getElem?_append_right (by omega)] at h
      exact Or.inr ⟨by omega, h⟩
  refine ⟨fun i j x y hi hj hxy => ?_, fun k q h => ?_⟩
  · rcases at_ i x hi with ⟨h1, h2⟩ | ⟨h1, h2⟩ <;> rcases at_ j y hj with ⟨g1, g2⟩ | ⟨g1, g2⟩
    · exact hD.1 i j x y h2 g2 hxy
    · have := hn i x h2
      have := hD2.2 _ y g2
      omega
    · have := hn j y g2
      have := hD2.2 _ x h2
      omega
    · have := hD2.1 _ _ x y h2 g2 hxy
      omega
  · rcases at_ k q h with ⟨h1, h2⟩ | ⟨h1, h2⟩
    · exact hD.2 k q h2
    · exact hA _ (hD2.2 _ q h2)
def grW (cI cII : ClassId) (h : Nat) : va_W := (h, .inl (cII, 10, .inr (.inr (.inr (.inr (fun i => some (h + 1 + i))))))) :: rw10 cI (fun i => h + 1 + i) (fun _ _ => 0)
theorem grW_at {cI cII : ClassId} {h k : Nat} {q : Nat × va_E} (hk : (grW cI cII h)[k]? = some q) : (k = 0 ∧ q = (h, .inl (cII, 10, .inr (.inr (.inr (.inr (fun i => some (h + 1 + i)))))))) ∨ ∃ j, j < 10 ∧ k = j + 1 ∧ q = (h + 1 + j, .inl (cI, 10, .inl (fun _ => 0))) := by
  cases k with
  | zero => exact Or.inl ⟨rfl, (Option.some.inj hk).symm⟩
  | succ j =>
    have hk' : (rw10 cI (fun i => h + 1 + i) (fun _ _ => 0))[j]? = some q := hk
    have hj : j < 10 := (List.getElem?_eq_some_iff.mp hk').1
    have := rw10_get (cI := cI) (ga := fun i => h + 1 + i) (G := fun _ _ => 0) [] hj
    rw [List.nil_append, List.length_nil, Nat.zero_add] at this
    rw [this] at hk'
    exact Or.inr ⟨j, hj, rfl, (Option.some.inj hk').symm⟩
section GJ
variable {l : Launch} {cc : ByteArray} {nL : Nat} {D : va_G} {own : String} {R : Room} {A : Nat → Prop} {Z : nZ} {J : nT} {ck cs : Nat} {ws : va_W} {pc : Nat} {lv : List (Nat × Value)} {st : List Value} {cI cS cII : ClassId}
theorem nn_grid (hJ : nJ l cc nL D (tysU cI cS cII) own R A Z J) {index : Nat} (hd : decode cc pc = .ok (.multianewarray index 2, 4)) (hw : Cond.classLink own index "[[I" ∈ lw_tbl) (hZo : ∀ s meth args below Q, Z s meth args below Q → ∀ a : Array Value, (Cond.arrayOver (.array .int)).before a s = true) (hw2 : Cond.arrayClass .int ∈ lw_tbl) (h1 : ck + 11 ≤ R.cells) (h2 : cs + 110 ≤ R.slots) (kk : ∀ q : Nat, J (ck + 11) (cs + 110) (ws ++ grW cI cII q) (pc + 4) lv (.ref q :: st)) : J ck cs ws pc lv (.int 10 :: .int 10 :: st) := by
  obtain ⟨p, e, s, m, args, below, meth, c, Q, hx, hb, hml, ho, hK, hA, hZ, rfl⟩ := hJ
  intro H locs ls hP hD hS hl T hT X
  obtain ⟨vm₁, cA, cB, hwm, hnA, hnB, XF, hst⟩ := gr_step X hx ho (hK.2.1 _ hw rfl args) (hZo _ _ _ _ _ hZ args) (hK.2.1 _ hw2 rfl args) (g := F0 m pc ls (.int 10 :: .int 10 :: st)) rfl (by rw [hb]; exact hd) rfl h1 h2
  have eB : cB = cI := Option.some.inj (hnB.symm.trans (va_nm_int (hK.1.2 0 (cI, .int) rfl).2))
  have eA : cA = cII := Option.some.inj (hnA.symm.trans (show s.vm.findClass "[[I" = some cII from (hK.1.2 2 (cII, .array .int) rfl).2))
  subst eB eA
  have hTs : (T.setVm vm₁).heap.size = H.size := by show T.heap.size = _; rw [hT]
  obtain ⟨z1, z2, -, -⟩ := grS_at (T.setVm vm₁) cA cB 10
  have zold : ∀ q, q < H.size → (grS (T.setVm vm₁) cA cB 10).heap[q]? = H[q]? := fun q hq => by
    rw [grS_old (T.setVm vm₁) cA cB (by rw [hTs]; exact hq) 10]
    show T.heap[q]? = _
    rw [hT]
  have zrow := fun j (hj : j < 10) => grS_row (T.setVm vm₁) cA cB 10 j hj
  rw [hTs] at z1 z2
  simp only [hTs] at zrow
  have hP1 : va_P D vwCl (ws ++ grW cB cA H.size) (grS (T.setVm vm₁) cA cB 10).heap := by
    refine (hP.kept (fun k q hk => zold q.1 (va_at_lt hP hk))).app (fun k q hk => ?_)
    rcases grW_at hk with ⟨-, rfl⟩ | ⟨j, hj, -, rfl⟩
    · show (grS (T.setVm vm₁) cA cB 10).heap[H.size]? = some (vp_cell _ _)
      rw [z2, vp_cell_q]
      congr 1
    · show (grS (T.setVm vm₁) cA cB 10).heap[H.size + 1 + j]? = some (vp_cell _ _)
      rw [zrow j hj, vp_cell_i]
  have hD1 : va_D A (ws ++ grW cB cA H.size) := by
    refine app_D (n := H.size) hD (fun k q hk => va_at_lt hP hk) ⟨fun i j x y hi hj hxy => ?_, fun k q hk => ?_⟩ (fun q hq => hA q (Nat.le_trans hS.1 hq))
    · rcases grW_at hi with ⟨rfl, rfl⟩ | ⟨i', hi', rfl, rfl⟩ <;> rcases grW_at hj with ⟨rfl, rfl⟩ | ⟨j', hj', rfl, rfl⟩
      · rfl
      · have h9 : H.size = H.size + 1 + j' := hxy
        omega
      · have h9 : H.size + 1 + i' = H.size := hxy
        omega
      · have h9 : H.size + 1 + i' = H.size + 1 + j' := hxy
        omega
    · rcases grW_at hk with ⟨-, rfl⟩ | ⟨j, hj, -, rfl⟩
      · exact Nat.le_refl _
      · show H.size ≤ H.size + 1 + j
        omega
  have hS1 : va_S A s.heap (grS (T.setVm vm₁) cA cB 10).heap (locs ++ (List.range 10).map fun j => ⟨T.heap.size, j⟩) := by
    refine ⟨by have := hS.1; omega, fun q h1 h2 => by rw [zold q (Nat.lt_of_lt_of_le h1 hS.1)]; exact hS.2.1 q h1 h2, fun q hq => (List.mem_append.mp hq).elim (hS.2.2 q) (fun h => ?_)⟩
    obtain ⟨j, -, rfl⟩ := List.mem_map.mp h
    show A T.heap.size
    rw [hT]
    exact hA _ hS.1
  obtain ⟨t2, a1, b1⟩ := kk H.size _ _ ls hP1 hD1 hS1 hl _ rfl XF
  refine ⟨t2, hst t2 ?_, b1⟩
  have e9 : T.heap.size = H.size := by rw [hT]
  rw [e9]
  exact a1
end GJ
