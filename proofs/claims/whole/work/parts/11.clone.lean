/-! clone and checkcast of an int[] -/
section RCL
variable {G : az_G} {M : az_M} {d mc ms pc : Nat} {ls : List (Option az_V)} {st : List az_V} {h : az_H} {Q : Option az_V → az_H → Prop}
theorem rz_clone {a index : Nat} {xs : List Int} (hd : decode M.2.1 pc = .ok (.invokevirtual index, 3)) (hl : Cond.methodLink M.1.cls index ⟨"[I", "clone", "()Ljava/lang/Object;"⟩ ∈ lw_tbl) (hsame : Cond.sameMethod "[I" "java/lang/Object" "clone" "()Ljava/lang/Object;" ∈ lw_tbl)
    (hnat : Cond.native ⟨"java/lang/Object", "clone", "()Ljava/lang/Object;"⟩ ∈ lw_tbl) (hinst : Cond.instanceMethod ⟨"java/lang/Object", "clone", "()Ljava/lang/Object;"⟩ ∈ lw_tbl) (hsel : Cond.selects "[I" ⟨"[I", "clone", "()Ljava/lang/Object;"⟩ ⟨"java/lang/Object", "clone", "()Ljava/lang/Object;"⟩ ∈ lw_tbl) (hcl : Cond.castable "[I" "java/lang/Cloneable" ∈ lw_ex)
    (hg : h.1 a = cA .int xs) (hw : az_wd st ≤ 8) (kk : ez G M (d + 1) mc ms (pc + 3) ls (vo h.2 :: st) (hpsh h (cA .int xs)) Q) : ez G M (d + 1) (mc + 1) (ms + xs.length) pc ls (vo a :: st) h Q := by
  intro p e R s m args below meth c H locs cells slots LS Z C hR hll hs hL g1 g2 hk
  intro T hT X
  have ht : FieldType.int ∈ arrT := by decide
  have hreg : az_reg (h.1 a) := by rw [hg]; exact ht
  obtain ⟨b1, b2⟩ := rel_g hR a hreg
  have hok := (rel_r hR a b1 b2).2
  rw [hg] at hok
  obtain ⟨t0, ht0⟩ := reg_ty (G := G) ht
  have hA := ((rel_K hR).2 t0 _ ht0)
  have hc0 := cell_at hR hreg
  rw [hg, ce_i (by decide)] at hc0
  have hc0 : H[az_ad G a]? = some (vp_cell (G.2.2.1 .int) (xs.length, .inl fun j => Int32.ofInt (xs.getD j 0))) := hc0
  generalize hx : ((xs.length, .inl fun j => Int32.ofInt (xs.getD j 0)) : vp_A) = x at hc0
  have hx1 : x.1 = xs.length := by rw [← hx]
  have hsz : (vp_cell (G.2.2.1 .int) x).slots.size = xs.length := by
    rw [← hx, vp_cell_i, arrV_size]
  have hvm0 : (vp_cell (G.2.2.1 .int) x).vm = .none := by rw [← hx]; rfl
  have hcl0 : (vp_cell (G.2.2.1 .int) x).cls = G.2.2.1 .int := by rw [← hx]; rfl
  have hcellE : ({ cls := (vp_cell (G.2.2.1 .int) x).cls, slots := (vp_cell (G.2.2.1 .int) x).slots } : Cell) = vp_cell (G.2.2.1 .int) x := by rw [← hx]; rfl
  have hnm : s.vm.findClass "[I" = some (G.2.2.1 .int) := hA.2
  obtain ⟨c0, t0', f1, f2, f3⟩ := Cond.castable_spec (va_Nw.use (A := args) rfl (hR.2.2.2.2.2.1 _ hcl))
  cases hnm.symm.trans f1
  have hcellT : T.heap[az_ad G a]? = some (vp_cell (G.2.2.1 .int) x) := by rw [hT]; exact hc0
  obtain ⟨-, kA, hkA, comp, hkind⟩ := State.isArrayOf_alike X.warmed.alike (hA.1 0 (fun _ => .null))
  obtain ⟨-, kS, hkS, compS, hkindS⟩ := hA.1 0 (fun _ => .null)
  have h9 := C.2.2.2.2.2.2.2.2
  have hfit : ∀ (i : Nat) (v : Value), (vp_cell (G.2.2.1 .int) x).slots[i]? = some v → fits .int v = true := fun i v hv => by
    rw [← hx, vp_cell_i] at hv
    have hlt : i < xs.length := by
      have := (Array.getElem?_eq_some_iff.mp hv).1
      rw [arrV_size] at this
      exact this
    rw [arrV_read _ _ hlt] at hv
    cases hv
    rfl
  obtain ⟨vm', X', step⟩ := X.cloneArray C.1 C.2.2.2.2.1 (C.2.2.2.2.2.1 _ hl rfl) (C.2.2.2.2.2.1 _ hsame rfl) (C.2.2.2.2.2.1 _ hnat rfl) (C.2.2.2.2.2.1 _ hinst rfl) (C.2.2.2.2.2.1 _ hsel rfl) (a := az_ad G a) (cell := vp_cell (G.2.2.1 .int) x) hcellT (fun k h => by rw [hvm0] at h; cases h) (by rw [hvm0]; exact fun h => by cases h) (by rw [hcl0]; exact hnm) f2 (by rw [hcl0]; exact f3)
    (fun i v hv => by
      rw [hcl0]
      have hk' : T.vm.classes[G.2.2.1 .int]? = some kA := hkA
      simpa [State.fitsSlot, State.slotType?, hk', hkind] using hfit i v hv)
    (g := F0 m pc LS ((vo a :: st).map (az_cv G))) rfl (by rw [C.2.2.1]; exact hL.1) (rest := st.map (az_cv G)) rfl (by rw [C.2.1]; exact hd) (by omega) (by show 2 * 0 + _ + 14 ≤ _; rw [wd_of]; omega) (by omega) (by rw [hsz]; omega) (hloader := by rw [hcl0]; exact Vm.clonesLoader_of_array hkS hkindS)
  rw [hcellE, hsz] at X'
  generalize hH1 : H.push (vp_cell (G.2.2.1 .int) x) = H1
  have z1 : H1.size = H.size + 1 := by rw [← hH1, Array.size_push]
  have e1 : H1[H.size]? = some (vp_cell (G.2.2.1 .int) x) := by rw [← hH1, Array.getElem?_push_size]
  have o1 : ∀ q : Nat, q < H.size → H1[q]? = H[q]? := fun q hq => by rw [← hH1, Array.getElem?_push, if_neg (Nat.ne_of_lt hq)]
  have he : va_at G.2.1 classes (az_ad G h.2, az_ce G (cA .int xs)) H1 := by
    rw [ce_i (by decide)]
    show H1[az_ad G h.2]? = some (vp_cell _ _)
    rw [sz_of hR, e1, hx]
  obtain ⟨t, a1, a2⟩ := kk p e R s m args below meth c H1 locs (cells + 1) (slots + xs.length) LS Z C (rel_psh hR ht hok he z1 o1) hll (okS_c (v := vo h.2) trivial (okS_t hs)) hL (by omega) (by omega)
    (by rw [show cells + 1 + mc = cells + (mc + 1) by omega, show slots + xs.length + ms = slots + (ms + xs.length) by omega]; exact hk) ((T.setVm vm').pushCell (vp_cell (G.2.2.1 .int) x)) (by rw [← hH1, ← hT]; rfl) X'
  refine ⟨t, step t ?_, a2⟩
  rw [hcellE]
  have e5 : Value.ref T.heap.size = az_cv G (vo h.2) := by rw [hT, ← sz_of hR]; rfl
  rw [List.map_cons, ← e5] at a1
  exact a1
theorem rz_casta {a index : Nat} {xs : List Int} (hd : decode M.2.1 pc = .ok (.checkcast index, 3)) (hl : Cond.classLink M.1.cls index "[I" ∈ lw_tbl) (hg : h.1 a = cA .int xs) (kk : ez G M d mc ms (pc + 3) ls (vo a :: st) h Q) : ez G M d mc ms pc ls (vo a :: st) h Q := by
  intro p e R s m args below meth c H locs cells slots LS Z C hR hll hs hL g1 g2 hk
  have ht : FieldType.int ∈ arrT := by decide
  obtain ⟨b1, b2⟩ := rel_g hR a (by rw [hg]; exact ht)
  obtain ⟨t0, ht0⟩ := reg_ty (G := G) ht
  exact va_castA C.1 C.2.1 C.2.2.2.2.1 (C.2.2.2.2.2.1 _ hl rfl) (rel_P hR) (a - 16) (by rw [ws_get b1 b2, hg, ad_of b1, ce_i (by decide)]) (((rel_K hR).2 t0 _ ht0).2) hd (kk p e R s m args below meth c H locs cells slots LS Z C hR hll hs hL g1 g2 hk)
end RCL
