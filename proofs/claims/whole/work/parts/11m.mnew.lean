/-! new int[3][19]: the outer array, then its three rows -/
def mzL (h0 i : Nat) : List Value := [if 0 < i then .ref (h0 + 1) else .null, if 1 < i then .ref (h0 + 2) else .null, if 2 < i then .ref (h0 + 3) else .null]
def mzO (c : ClassId) (h0 i : Nat) : Cell := { cls := c, slots := (mzL h0 i).toArray, vm := .none }
def mzI (c : ClassId) : Cell := { cls := c, slots := Array.replicate 19 (.int 0), vm := .none }
/-- the state when i rows are made -/
def mzS (s : State) (c cc : ClassId) : Nat → State
  | 0 => s.pushCell (mzO c s.heap.size 0)
  | i + 1 => ((mzS s c cc i).pushCell (mzI cc)).setCell s.heap.size (mzO c s.heap.size (i + 1))
theorem mz_set (c : ClassId) (h0 i : Nat) (hi : i < 3) : (mzO c h0 i).setSlot i (.ref (h0 + 1 + i)) = mzO c h0 (i + 1) := by
  match i, hi with
  | 0, _ => rfl
  | 1, _ => simp [mzO, mzL, Cell.setSlot]
  | 2, _ => simp [mzO, mzL, Cell.setSlot]
theorem mz_sz (s : State) (c cc : ClassId) : ∀ i, (mzS s c cc i).heap.size = s.heap.size + 1 + i ∧ (mzS s c cc i).vm = s.vm ∧ (mzS s c cc i).slotsUsed = s.slotsUsed + 3 + i * 19 ∧ (mzS s c cc i).heap[s.heap.size]? = some (mzO c s.heap.size i)
  | 0 => ⟨by simp [mzS], rfl, by simp [mzS, mzO, mzL], by simp [mzS]⟩
  | i + 1 => by
    obtain ⟨a1, a2, a3, a4⟩ := mz_sz s c cc i
    have hlt : s.heap.size < (mzS s c cc i).heap.size := by omega
    have hb : ((mzS s c cc i).pushCell (mzI cc)).heap[s.heap.size]? = some (mzO c s.heap.size i) := by rw [State.heap_pushCell_of_lt (h := hlt)]; exact a4
    refine ⟨?_, ?_, ?_, State.heap_setCell_self hb⟩
    · simp [mzS, State.setCell, a1]; omega
    · simp [mzS, a2]
    · simp [mzS, a3, mzI]; omega
theorem mz_old (s : State) (c cc : ClassId) {q : Nat} (hq : q < s.heap.size) : ∀ i, (mzS s c cc i).heap[q]? = s.heap[q]?
  | 0 => by
    show (s.pushCell _).heap[q]? = _
    rw [State.heap_pushCell_of_lt (h := hq)]
  | i + 1 => by
    have h1 := (mz_sz s c cc i).1
    show (((mzS s c cc i).pushCell (mzI cc)).setCell s.heap.size (mzO c s.heap.size (i + 1))).heap[q]? = _
    have e1 : s.heap.size ≠ q := by omega
    have e2 : q < (mzS s c cc i).heap.size := by omega
    rw [State.heap_setCell_other e1, State.heap_pushCell_of_lt (h := e2)]
    exact mz_old s c cc hq i
theorem mz_row (s : State) (c cc : ClassId) : ∀ i j, j < i → (mzS s c cc i).heap[s.heap.size + 1 + j]? = some (mzI cc)
  | 0, j, h => by omega
  | i + 1, j, h => by
    have h1 := (mz_sz s c cc i).1
    show (((mzS s c cc i).pushCell (mzI cc)).setCell s.heap.size (mzO c s.heap.size (i + 1))).heap[s.heap.size + 1 + j]? = _
    have e1 : s.heap.size ≠ s.heap.size + 1 + j := by omega
    rw [State.heap_setCell_other e1]
    by_cases e : j = i
    · subst e
      rw [← h1]
      exact State.heap_pushCell_size _ _
    · have e2 : s.heap.size + 1 + j < (mzS s c cc i).heap.size := by omega
      rw [State.heap_pushCell_of_lt (h := e2)]
      exact mz_row s c cc i j (by omega)
section MZ
variable {E : CtlPost} {e : Env} {d : Bool} {acts : List Action} {s : State}
theorem mz_new {c comp : ClassId} {k : Class} {ty : FieldType} {n : Nat} {v : Value} (hk : s.vm.classes[c]? = some k) (hkind : k.kind = .array comp ty) (h1 : ¬ n > e.platform.arrayLengthLimit) (h2 : ¬ n * componentBytes ty > e.platform.maxHeapBytes) (hf : fits ty v = true) (hd : v.isDefault = true) {Q : Addr → Pre}
    (h3 : s.heap.size < e.platform.maxCells) (h4 : s.slotsUsed + n ≤ e.platform.maxSlots) (hq : Q s.heap.size d acts (s.pushCell { cls := c, slots := Array.replicate n v, vm := .none })) : wp (Jvm.newArray c n v) Q E e d acts s := by
  have a1 : ∀ i w, (Array.replicate n v)[i]? = some w → s.fitsSlot c .none i w = true := by
    intro i w hw
    rw [Array.getElem?_replicate] at hw
    split at hw
    · cases hw; simp [State.fitsSlot, State.slotType?, hk, hkind, hf]
    · cases hw
  have a2 : allocActs (Array.replicate n v) s.heap.size acts = acts := by
    have : ((Array.replicate n v).all (·.isDefault)) = true := by
      rw [Array.all_replicate]
      split <;> simp [hd]
    unfold allocActs
    rw [if_pos this]
  simp only [Jvm.newArray, Jvm.arrayFits, wp_bind', W.ask, W.ite, h1, if_false, wp_pure', W.theClass, hk, hkind, h2, W.alloc, W.stop, Option.some.injEq, exists_eq_left', Array.size_replicate, a2]
  rw [if_neg (by omega)]
  exact ⟨h3, h4, a1, hq⟩
theorem mz_make1 {cc c1 : ClassId} {kc : Class} (hk : s.vm.classes[cc]? = some kc) (hkind : kc.kind = .array c1 .int) (h1 : ¬ 19 > e.platform.arrayLengthLimit) (h2 : ¬ 19 * componentBytes .int > e.platform.maxHeapBytes) {Q : Addr → Pre}
    (h3 : s.heap.size < e.platform.maxCells) (h4 : s.slotsUsed + 19 ≤ e.platform.maxSlots) (hq : Q s.heap.size d acts (s.pushCell (mzI cc))) : wp (multianewarray.make cc [19]) Q E e d acts s := by
  rw [multianewarray.make]
  simp only [wp_bind', W.ite, show ¬ ((19 : Int32) < 0) by decide, if_false, wp_pure', W.theClass, hk, hkind, Option.some.injEq, exists_eq_left']
  exact mz_new hk hkind h1 h2 rfl rfl h3 h4 hq
theorem mz_make {c cc c1 : ClassId} {k kc : Class} (hk : s.vm.classes[c]? = some k) (hkind : k.kind = .array cc (.array .int)) (hkc : s.vm.classes[cc]? = some kc) (hkindc : kc.kind = .array c1 .int) (h1 : ¬ 19 > e.platform.arrayLengthLimit) (h2 : ¬ 76 > e.platform.maxHeapBytes)
    (h3 : s.heap.size + 4 ≤ e.platform.maxCells) (h4 : s.slotsUsed + 60 ≤ e.platform.maxSlots) {Q : Addr → Pre} (hq : ∀ d' acts', Q s.heap.size d' acts' (mzS s c cc 3)) : wp (multianewarray.make c [3, 19]) Q E e d acts s := by
  have hfind : ([(19 : Int32)].find? (· < 0)) = none := by decide
  have hn : (3 : Int32).toNatClampNeg = 3 := by decide
  rw [multianewarray.make]
  simp only [wp_bind', W.ite, show ¬ ((3 : Int32) < 0) by decide, if_false, wp_pure', W.theClass, hk, hkind, Option.some.injEq, exists_eq_left', hn]
  refine mz_new hk hkind (by omega) (by show ¬ 3 * 4 > _; omega) rfl rfl (by omega) (by omega) ?_
  simp only [hfind]
  rw [ite_self, wp_bind', Std.Legacy.Range.forIn_eq_forIn_range']
  have hsz : ([:3] : Std.Legacy.Range).size = 3 := by simp [Std.Legacy.Range.size]
  rw [hsz]
  refine wp_forIn_inv (fun rest s' => ∃ i, i ≤ 3 ∧ rest = List.range' i (3 - i) ∧ s' = mzS s c cc i) _ _ ⟨0, Nat.zero_le _, rfl, rfl⟩ ?_ ?_
  · rintro x rest s' d' acts' Q' ⟨i, hi, hl, rfl⟩ hnext
    have hlt : i < 3 := by
      rcases Nat.lt_or_ge i 3 with h | h
      · exact h
      · rw [show 3 - i = 0 by omega] at hl
        cases hl
    rw [show 3 - i = (3 - (i + 1)) + 1 by omega, List.range'_succ] at hl
    obtain ⟨rfl, hrest⟩ := List.cons.inj hl
    obtain ⟨a1, a2, a3, a4⟩ := mz_sz s c cc x
    simp only [wp_bind']
    refine mz_make1 (by rw [a2]; exact hkc) hkindc h1 (by show ¬ 19 * 4 > _; omega) (by rw [a1]; omega) (by rw [a3]; omega) ?_
    simp only [wp_bind', W.writeLoc, wp_pure']
    have hlt0 : s.heap.size < (mzS s c cc x).heap.size := by omega
    refine ⟨mzO c s.heap.size x, by rw [State.heap_pushCell_of_lt (h := hlt0)]; exact a4, by simp [mzO], by simpa [mzO, mzL] using hlt, ?_, hnext _ _ _ ⟨x + 1, hlt, hrest, ?_⟩⟩
    · show State.fitsSlot _ c .none x _ = true
      simp [State.fitsSlot, State.slotType?, a2, hk, hkind, fits]
    · rw [a1]
      show State.setCell _ _ ((mzO c s.heap.size x).setSlot x (.ref (s.heap.size + 1 + x))) = _
      rw [mz_set c _ x hlt]
      rfl
  · rintro s' d' acts' ⟨i, hi, hl, rfl⟩
    have hiN : i = 3 := by
      rcases Nat.lt_or_ge i 3 with h | h
      · rw [show 3 - i = (3 - (i + 1)) + 1 by omega, List.range'_succ] at hl
        cases hl
      · omega
    subst hiN
    simp only [wp_pure']
    exact hq _ _
end MZ
theorem mz_top (s : State) (f : JFrame) (c cc : ClassId) : ∀ i, mzS (s.setTop f) c cc i = (mzS s c cc i).setTop f
  | 0 => rfl
  | i + 1 => by
    show ((mzS (s.setTop f) c cc i).pushCell (mzI cc)).setCell s.heap.size (mzO c s.heap.size (i + 1)) = _
    rw [mz_top s f c cc i]
    rfl
section MZX
variable {p : Program} {l : Launch} {e : Env} {R : Room} {s : State} {m : MethodId} {args : Array Value} {below : List Frame} {meth : Method} {c : Code} {T : State} {locs : List Loc} {cells slots : Nat}
theorem mz_stand (X : Stand p l e R s m args below meth c T locs cells slots) (cA cc : ClassId) : ∀ i, i ≤ 3 → ∃ L : List Loc, (∀ q ∈ L, q.base = T.heap.size) ∧ Stand p l e R s m args below meth c (mzS T cA cc i) (locs ++ L) (cells + 1 + i) (slots + 3 + i * 19)
  | 0, _ => by
    have h := X.pushed (mzO cA T.heap.size 0)
    exact ⟨[], fun _ hq => (by cases hq), by simpa [mzS, mzO, mzL] using h⟩
  | i + 1, hi => by
    obtain ⟨L, hL, Xi⟩ := mz_stand X cA cc i (by omega)
    obtain ⟨a1, a2, a3, a4⟩ := mz_sz T cA cc i
    have hlt0 : T.heap.size < (mzS T cA cc i).heap.size := by omega
    have hcell : ((mzS T cA cc i).pushCell (mzI cc)).heap[T.heap.size]? = some (mzO cA T.heap.size i) := by rw [State.heap_pushCell_of_lt (h := hlt0)]; exact a4
    have h := (Xi.pushed (mzI cc)).stored hcell i (.ref (T.heap.size + 1 + i))
    rw [mz_set cA _ i (by omega), show (mzI cc).slots.size = 19 by simp [mzI]] at h
    refine ⟨L ++ [⟨T.heap.size, i⟩], fun q hq => ?_, ?_⟩
    · rcases List.mem_append.mp hq with h | h
      · exact hL q h
      · rw [List.mem_singleton.mp h]
    · rw [← List.append_assoc, show slots + 3 + (i + 1) * 19 = slots + 3 + i * 19 + 19 by omega]
      exact h
theorem mz_step (X : Stand p l e R s m args below meth c T locs cells slots) (hexec : p.tables.exec = Jvm.exec) {own : String} {index : Nat} (hown : s.vm.findClass own = some m.cls) (hclink : (Cond.classLink own index "[[I").before args s = true) {cA cc c1 : ClassId} {kA kC : Class}
    (fA : s.vm.findClass "[[I" = some cA) (hkA : s.vm.classes[cA]? = some kA) (hkindA : kA.kind = .array cc (.array .int)) (hkC : s.vm.classes[cc]? = some kC) (hkindC : kC.kind = .array c1 .int)
    {g : JFrame} (hg : g.method = m) (hdg : decode c.code g.pc = .ok (.multianewarray index 2, 4)) {rest : List Value} (hstack : g.stack = .int 19 :: .int 3 :: rest) (hcells : cells + 4 ≤ R.cells) (hslots : slots + 60 ≤ R.slots) :
    ∃ (vm₁ : Vm) (L : List Loc), (∀ q ∈ L, q.base = T.heap.size) ∧ Stand p l e R s m args below meth c (mzS (T.setVm vm₁) cA cc 3) (locs ++ L) (cells + 4) (slots + 60) ∧
      ∀ target, Steps p.tables e below ((mzS (T.setVm vm₁) cA cc 3).setTop { g with pc := g.pc + 4, stack := .ref T.heap.size :: rest }) target → Steps p.tables e below (T.setTop g) target := by
  subst hg
  have hpl : e.platform.magicAccessors = ({} : Platform).magicAccessors := by rw [X.admits.platform]
  obtain ⟨c0, hfc0, hcl⟩ := Cond.classLink_spec hown hclink e.platform hpl
  cases fA.symm.trans hfc0
  obtain ⟨hg₁, hwarm₁, hready₁⟩ := State.classEntry (e := e) X.warmed hcl
  generalize T.vm.noted g.method.cls index (.cls cA) = vm₁ at hg₁ hwarm₁ hready₁
  have hal : s.vm.Alike vm₁ := hwarm₁.alike
  obtain ⟨kA₁, hkA₁, heA⟩ := hal.2.2 _ _ hkA
  obtain ⟨kC₁, hkC₁, heC⟩ := hal.2.2 _ _ hkC
  have X₁ := X.noted hwarm₁
  obtain ⟨hr1, hr2⟩ := X.roomAbove hcells hslots
  obtain ⟨L, hL, XF⟩ := mz_stand X₁ cA cc 3 (Nat.le_refl 3)
  refine ⟨vm₁, L, hL, XF, fun target hrest => ?_⟩
  jvm_step X.here [hexec, hdg]
  simp only [multianewarray.sem, wp_bind', W.resolveClassAt_links (State.method?_setTop g X.here.top) hg₁]
  rw [W.popN, if_neg (by decide)]
  refine ⟨g, State.topJava?_setTop' (s := T.setVm vm₁) g X.here.top, [.int 3, .int 19], rest, rfl, hstack, ?_⟩
  simp only [List.mapM_cons, List.mapM_nil, wp_bind', wp_pure']
  refine mz_make (k := kA₁) (kc := kC₁) (cc := cc) (c1 := c1) hkA₁ (by rw [heA]; exact hkindA) hkC₁ (by rw [heC]; exact hkindC) (by rw [Launch.admits_arrayLengthLimit X.admits]; omega) (by rw [Launch.admits_maxHeapBytes X.admits]; omega) (by show T.heap.size + 4 ≤ _; omega) (by show T.slotsUsed + 60 ≤ _; omega) (fun d' acts' => ?_)
  have eS : ((T.setTop g).setVm vm₁).setTop { g with stack := rest } = (T.setVm vm₁).setTop { g with stack := rest } := by
    show ((T.setVm vm₁).setTop g).setTop _ = _
    rw [State.setTop_setTop]
  rw [eS, mz_top]
  simp only [wp_bind', W.mark, W.pushRef, State.topJava?_setTop' _ XF.here.top, Option.some.injEq, exists_eq_left', State.setTop_setTop, State.heap_setTop]
  intro acts
  simp [jvm, XF.here.top]
  exact hrest
end MZX
section RMZ
variable {G : az_G} {M : az_M} {d mc ms pc : Nat} {ls : List (Option az_V)} {st : List az_V} {h : az_H} {Q : Option az_V → az_H → Prop}
/-- the clean heap with the outer array and its three rows -/
def hgrd (h : az_H) : az_H := hpsh (hpsh (hpsh (hpsh h (cR (.array .int) [some (h.2 + 1), some (h.2 + 2), some (h.2 + 3)])) (cA .int (List.replicate 19 0))) (cA .int (List.replicate 19 0))) (cA .int (List.replicate 19 0))
theorem rz_mnew {index : Nat} (hd : decode M.2.1 pc = .ok (.multianewarray index 2, 4)) (hw : Cond.classLink M.1.cls index "[[I" ∈ lw_tbl) (kk : ez G M d mc ms (pc + 4) ls (vo h.2 :: st) (hgrd h) Q) : ez G M d (mc + 4) (ms + 60) pc ls (vi 19 :: vi 3 :: st) h Q := by
  intro p e R s m args below meth c H locs cells slots LS Z C hR hl hs hL h1 h2 hk
  intro T hT X
  have hta : FieldType.array .int ∈ arrT := by decide
  have hti : FieldType.int ∈ arrT := by decide
  obtain ⟨t0, ht0⟩ := reg_ty (G := G) hta
  obtain ⟨t1, ht1⟩ := reg_ty (G := G) hti
  obtain ⟨hA1, hA2⟩ := (rel_K hR).2 t0 _ ht0
  obtain ⟨hB1, hB2⟩ := (rel_K hR).2 t1 _ ht1
  have fA : s.vm.findClass "[[I" = some (G.2.2.1 (.array .int)) := hA2
  obtain ⟨kA, hkA, hkindA⟩ := hR.2.2.2.2.2.2.2.2.2.2.2
  obtain ⟨-, kC, hkC, c1, hkindC⟩ := hB1 0 (fun _ => .null)
  obtain ⟨vm₁, L, hLb, XF, step⟩ := mz_step X C.1 C.2.2.2.2.1 (C.2.2.2.2.2.1 _ hw rfl) fA hkA hkindA hkC hkindC (g := F0 m pc LS ((vi 19 :: vi 3 :: st).map (az_cv G))) rfl (by rw [C.2.1]; exact hd) (rest := st.map (az_cv G)) rfl (by omega) (by omega)
  generalize hF : mzS (T.setVm vm₁) (G.2.2.1 (.array .int)) (G.2.2.1 .int) 3 = F at XF step
  have hTh : (T.setVm vm₁).heap = H := hT
  obtain ⟨z1, -, -, z4⟩ := mz_sz (T.setVm vm₁) (G.2.2.1 (.array .int)) (G.2.2.1 .int) 3
  have zo : ∀ q, q < H.size → F.heap[q]? = H[q]? := fun q hq => by
    rw [← hF, mz_old (T.setVm vm₁) _ _ (by rw [hTh]; exact hq), hTh]
  have zr : ∀ j, j < 3 → F.heap[H.size + 1 + j]? = some (mzI (G.2.2.1 .int)) := fun j hj => by
    have := mz_row (T.setVm vm₁) (G.2.2.1 (.array .int)) (G.2.2.1 .int) 3 j hj
    rw [hTh, hF] at this
    exact this
  rw [hF, hTh] at z1 z4
  -- the heaps between
  have hsz := sz_of hR
  have hn := rel_n hR
  have ead : ∀ k, az_ad G (h.2 + k) = H.size + k := fun k => by
    rw [ad_of (by omega), ← hsz, ad_of hn]
    omega
  have row : ∀ (h1 : az_H) (H1 : Heap) (k : Nat), h1.2 = h.2 + 1 + k → k < 3 → az_Rel G s h1 H1 locs → H1.size = H.size + 1 + k → (∀ q, q < H1.size → H1[q]? = F.heap[q]?) → az_Rel G s (hpsh h1 (cA .int (List.replicate 19 0))) (H1.push (mzI (G.2.2.1 .int))) locs := by
    intro h1 H1 k e1 hk3 hR1 s1 o1
    refine rel_psh hR1 hti (fun x hx => ?_) ?_ (by simp) (fun q hq => by rw [Array.getElem?_push, if_neg (Nat.ne_of_lt hq)])
    · rw [(List.mem_replicate.mp hx).2]
      exact ⟨by decide, by decide⟩
    · rw [ce_i (by decide)]
      show (H1.push (mzI (G.2.2.1 .int)))[az_ad G h1.2]? = some (vp_cell _ _)
      rw [sz_of hR1, Array.getElem?_push, if_pos rfl, vp_cell_i, List.length_replicate]
      refine congrArg some ?_
      show ({ cls := G.2.2.1 .int, slots := Array.replicate 19 (.int 0), vm := .none } : Cell) = _
      rw [arrV_new]
      refine congrArg (arrV _ _) (funext fun j => ?_)
      have hz : ((List.replicate 19 (0 : Int)).getD j 0) = 0 := by
        rw [List.getD_eq_getElem?_getD, List.getElem?_replicate]
        split <;> rfl
      rw [hz]
      rfl
  have hR1 : az_Rel G s (hpsh h (cR (.array .int) [some (h.2 + 1), some (h.2 + 2), some (h.2 + 3)])) (H.push (mzO (G.2.2.1 (.array .int)) H.size 3)) locs := by
    refine rel_psh hR hta trivial ?_ (by simp) (fun q hq => by rw [Array.getElem?_push, if_neg (Nat.ne_of_lt hq)])
    show (H.push _)[az_ad G h.2]? = some (vp_cell _ (_, .inr (.inr (.inr (.inr _)))))
    rw [hsz, Array.getElem?_push, if_pos rfl, vp_cell_q]
    refine congrArg some ?_
    show ({ cls := G.2.2.1 (.array .int), slots := (mzL H.size 3).toArray, vm := .none } : Cell) = { cls := _, slots := Array.ofFn (n := 3) fun j => _, vm := .none }
    refine congrArg (fun z => ({ cls := G.2.2.1 (.array .int), slots := z, vm := .none } : Cell)) ?_
    apply Array.ext
    · simp [mzL]
    · intro i i1 i2
      have hi : i < 3 := by simpa [mzL] using i1
      match i, hi with
      | 0, _ => simp [mzL, va_rf, ead 1]
      | 1, _ => simp [mzL, va_rf, ead 2]
      | 2, _ => simp [mzL, va_rf, ead 3]
  have hR2 := row _ _ 0 rfl (by omega) hR1 (by simp) (fun q hq => by
    rw [Array.getElem?_push]
    split
    · next e9 => subst e9; exact z4.symm
    · exact (zo q (by simp at hq; omega)).symm)
  have hR3 := row _ _ 1 rfl (by omega) hR2 (by simp) (fun q hq => by
    rw [Array.getElem?_push]
    split
    · next e9 => subst e9; rw [Array.size_push]; exact (zr 0 (by omega)).symm
    · rw [Array.getElem?_push]
      split
      · next e9 => subst e9; exact z4.symm
      · next e8 e9 => exact (zo q (by simp at hq e8; omega)).symm)
  have hR4 := row _ _ 2 rfl (by omega) hR3 (by simp) (fun q hq => by
    rw [Array.getElem?_push]
    split
    · next e9 => subst e9; simp only [Array.size_push]; exact (zr 1 (by omega)).symm
    · rw [Array.getElem?_push]
      split
      · next e9 => subst e9; rw [Array.size_push]; exact (zr 0 (by omega)).symm
      · rw [Array.getElem?_push]
        split
        · next e9 => subst e9; exact z4.symm
        · next e7 e8 e9 => exact (zo q (by simp at hq e7 e8; omega)).symm)
  have hFe : F.heap = (((H.push (mzO (G.2.2.1 (.array .int)) H.size 3)).push (mzI (G.2.2.1 .int))).push (mzI (G.2.2.1 .int))).push (mzI (G.2.2.1 .int)) := by
    apply Array.ext_getElem?
    intro q
    rw [Array.getElem?_push, Array.getElem?_push, Array.getElem?_push, Array.getElem?_push]
    simp only [Array.size_push]
    by_cases c3 : q = H.size + 1 + 1 + 1
    · rw [if_pos c3, c3]
      exact zr 2 (by omega)
    · rw [if_neg c3]
      by_cases c2 : q = H.size + 1 + 1
      · rw [if_pos c2, c2]
        exact zr 1 (by omega)
      · rw [if_neg c2]
        by_cases c1 : q = H.size + 1
        · rw [if_pos c1, c1]
          exact zr 0 (by omega)
        · rw [if_neg c1]
          by_cases c0 : q = H.size
          · rw [if_pos c0, c0]
            exact z4
          · rw [if_neg c0]
            by_cases cq : q < H.size
            · exact zo q cq
            · rw [Array.getElem?_eq_none (by omega), Array.getElem?_eq_none (by omega)]
  rw [← hFe] at hR4
  obtain ⟨r1, r2, r3, r4, r5⟩ := hR4
  have hb : G.2.2.2.1 ≤ H.size := Nat.le_trans hR.2.1 hR.2.2.2.1.1
  have hRF : az_Rel G s (hgrd h) F.heap (locs ++ L) := ⟨r1, r2, r3, ⟨r4.1, r4.2.1, fun q hq => by
    rcases List.mem_append.mp hq with h9 | h9
    · exact r4.2.2 q h9
    · rw [hLb q h9, hT]; exact hb⟩, r5⟩
  obtain ⟨t, a1, a2⟩ := kk p e R s m args below meth c F.heap (locs ++ L) (cells + 4) (slots + 60) LS Z C hRF hl (okS_c (v := vo h.2) trivial (okS_t (okS_t hs))) hL (by omega) (by omega)
    (by rw [show cells + 4 + mc = cells + (mc + 4) by omega, show slots + 60 + ms = slots + (ms + 60) by omega]; exact hk) F rfl XF
  refine ⟨t, step t ?_, a2⟩
  rw [List.map_cons, show az_cv G (vo h.2) = Value.ref T.heap.size by rw [hT, ← hsz]; rfl] at a1
  exact a1
end RMZ
