/-! arrays: reading, writing, making -/
theorem gd_set {α β : Type} {xs : List α} {k : Nat} {x d : α} (hk : k < xs.length) (f : α → β) (j : Nat) : f ((xs.set k x).getD j d) = if j = k then f x else f (xs.getD j d) := by
  by_cases e : j = k
  · subst e
    simp [hk]
  · rw [if_neg e]
    have e2 : k ≠ j := fun q => e q.symm
    simp [List.getElem?_set, e2]
theorem gd_mem {α : Type} {xs : List α} {k : Nat} {d : α} (hk : k < xs.length) : xs.getD k d ∈ xs := by
  simp [hk]
theorem ce_i {G : az_G} {xs : List Int} {t : FieldType} (ht : t ≠ .long) : az_ce G (cA t xs) = .inl (G.2.2.1 t, xs.length, .inl fun j => Int32.ofInt (xs.getD j 0)) := by
  show Sum.inl (G.2.2.1 t, xs.length, if t = .long then _ else _) = _
  rw [if_neg ht]
theorem ce_l {G : az_G} {xs : List Int} : az_ce G (cA .long xs) = .inl (G.2.2.1 .long, xs.length, .inr (.inl fun j => Int64.ofInt (xs.getD j 0))) := by
  show Sum.inl (G.2.2.1 FieldType.long, xs.length, if FieldType.long = .long then _ else _) = _
  rw [if_pos rfl]
section RA
variable {G : az_G} {M : az_M} {d mc ms pc : Nat} {ls : List (Option az_V)} {st : List az_V} {h : az_H} {Q : Option az_V → az_H → Prop}
theorem rz_iald {a : Nat} {i : Int} {xs : List Int} (hd : decode M.2.1 pc = .ok (.iaload, 1)) (hg : h.1 a = cA .int xs) (h0 : 0 ≤ i) (hi : i < xs.length)
    (kk : ez G M d mc ms (pc + 1) ls (vi (xs.getD i.toNat 0) :: st) h Q) : ez G M d mc ms pc ls (vi i :: vo a :: st) h Q := by
  intro p e R s m args below meth c H locs cells slots LS Z C hR hl hs hL h1 h2 hk
  have ht : FieldType.int ∈ arrT := by decide
  obtain ⟨g1, g2⟩ := (rel_g hR) a (by rw [hg]; exact ht)
  have hok := ((rel_r hR) a g1 g2).2
  rw [hg] at hok
  have hx : az_ok (vi (xs.getD i.toNat 0)) := hok _ (gd_mem (by omega))
  obtain ⟨t0, ht0⟩ := reg_ty (G := G) ht
  have kk' := kk p e R s m args below meth c H locs cells slots LS Z C hR hl (okS_c hx (okS_t (okS_t hs))) hL h1 h2 hk
  refine va_iald C.1 C.2.1 (rel_K hR) (rel_P hR) (a - 16) t0 (by rw [ws_get g1 g2, hg, ad_of g1, ce_i (by decide)]) ht0 (in_of (okS_h hs) h0 hi) hd ?_
  rw [i32_nat (okS_h hs)]
  exact kk'
theorem rz_lald {a : Nat} {i : Int} {xs : List Int} (hd : decode M.2.1 pc = .ok (.laload, 1)) (hg : h.1 a = cA .long xs) (h0 : 0 ≤ i) (hi : i < xs.length)
    (kk : ez G M d mc ms (pc + 1) ls (vl (xs.getD i.toNat 0) :: st) h Q) : ez G M d mc ms pc ls (vi i :: vo a :: st) h Q := by
  intro p e R s m args below meth c H locs cells slots LS Z C hR hl hs hL h1 h2 hk
  have ht : FieldType.long ∈ arrT := by decide
  obtain ⟨g1, g2⟩ := (rel_g hR) a (by rw [hg]; exact ht)
  have hok := ((rel_r hR) a g1 g2).2
  rw [hg] at hok
  have hx : az_ok (vl (xs.getD i.toNat 0)) := hok _ (gd_mem (by omega))
  obtain ⟨t0, ht0⟩ := reg_ty (G := G) ht
  have kk' := kk p e R s m args below meth c H locs cells slots LS Z C hR hl (okS_c hx (okS_t (okS_t hs))) hL h1 h2 hk
  refine va_lald C.1 C.2.1 (rel_K hR) (rel_P hR) (a - 16) t0 (by rw [ws_get g1 g2, hg, ad_of g1, ce_l]) ht0 (in_of (okS_h hs) h0 hi) hd ?_
  rw [i32_nat (okS_h hs)]
  exact kk'
theorem rz_bald {a : Nat} {i : Int} {xs : List Int} (hd : decode M.2.1 pc = .ok (.baload, 1)) (hg : h.1 a = cA .byte xs) (h0 : 0 ≤ i) (hi : i < xs.length)
    (kk : ez G M d mc ms (pc + 1) ls (vi (xs.getD i.toNat 0) :: st) h Q) : ez G M d mc ms pc ls (vi i :: vo a :: st) h Q := by
  intro p e R s m args below meth c H locs cells slots LS Z C hR hl hs hL h1 h2 hk
  have ht : FieldType.byte ∈ arrT := by decide
  obtain ⟨g1, g2⟩ := (rel_g hR) a (by rw [hg]; exact ht)
  have hok := ((rel_r hR) a g1 g2).2
  rw [hg] at hok
  have hx0 : az_okt .byte (xs.getD i.toNat 0) := hok _ (gd_mem (by omega))
  have hx : az_ok (vi (xs.getD i.toNat 0)) := ⟨by have := hx0.1; omega, by have := hx0.2; omega⟩
  obtain ⟨t0, ht0⟩ := reg_ty (G := G) ht
  have kk' := kk p e R s m args below meth c H locs cells slots LS Z C hR hl (okS_c hx (okS_t (okS_t hs))) hL h1 h2 hk
  refine va_bald C.1 C.2.1 (rel_K hR) (rel_P hR) (a - 16) t0 (by rw [ws_get g1 g2, hg, ad_of g1, ce_i (by decide)]) ht0 (in_of (okS_h hs) h0 hi) hd ?_
  rw [i32_nat (okS_h hs)]
  exact kk'
theorem rz_zald {a : Nat} {i : Int} {xs : List Int} (hd : decode M.2.1 pc = .ok (.baload, 1)) (hg : h.1 a = cA .boolean xs) (h0 : 0 ≤ i) (hi : i < xs.length)
    (kk : ez G M d mc ms (pc + 1) ls (vi (xs.getD i.toNat 0) :: st) h Q) : ez G M d mc ms pc ls (vi i :: vo a :: st) h Q := by
  intro p e R s m args below meth c H locs cells slots LS Z C hR hl hs hL h1 h2 hk
  have ht : FieldType.boolean ∈ arrT := by decide
  obtain ⟨g1, g2⟩ := (rel_g hR) a (by rw [hg]; exact ht)
  have hok := ((rel_r hR) a g1 g2).2
  rw [hg] at hok
  have hx0 : az_okt .boolean (xs.getD i.toNat 0) := hok _ (gd_mem (by omega))
  have hx : az_ok (vi (xs.getD i.toNat 0)) := ⟨by have := hx0.1; omega, by have := hx0.2; omega⟩
  obtain ⟨t0, ht0⟩ := reg_ty (G := G) ht
  have kk' := kk p e R s m args below meth c H locs cells slots LS Z C hR hl (okS_c hx (okS_t (okS_t hs))) hL h1 h2 hk
  refine va_zald C.1 C.2.1 (rel_K hR) (rel_P hR) (a - 16) t0 (by rw [ws_get g1 g2, hg, ad_of g1, ce_i (by decide)]) ht0 (in_of (okS_h hs) h0 hi) hd ?_
  rw [i32_nat (okS_h hs)]
  exact kk'
theorem rz_aald {a : Nat} {i : Int} {t : FieldType} {rs : List (Option Nat)} (hd : decode M.2.1 pc = .ok (.aaload, 1)) (hg : h.1 a = cR t rs) (ht : t ∈ arrT) (htr : t.isReference = true) (h0 : 0 ≤ i) (hi : i < rs.length)
    (kk : ez G M d mc ms (pc + 1) ls (vr (rs.getD i.toNat none) :: st) h Q) : ez G M d mc ms pc ls (vi i :: vo a :: st) h Q := by
  intro p e R s m args below meth c H locs cells slots LS Z C hR hl hs hL h1 h2 hk
  have hreg : az_reg (h.1 a) := by rw [hg]; exact ht
  obtain ⟨g1, g2⟩ := (rel_g hR) a hreg
  obtain ⟨t0, ht0⟩ := reg_ty (G := G) ht
  have kk' := kk p e R s m args below meth c H locs cells slots LS Z C hR hl (okS_c (v := vr (rs.getD i.toNat none)) trivial (okS_t (okS_t hs))) hL h1 h2 hk
  have hc := cell_at hR hreg
  rw [hg] at hc
  have hc : H[az_ad G a]? = some (vp_cell (G.2.2.1 t) (rs.length, .inr (.inr (.inr (.inr fun j => (rs.getD j none).map (az_ad G)))))) := hc
  rw [vp_cell_q] at hc
  have hv := in_of (okS_h hs) h0 hi
  have hn := i32_nat (okS_h hs)
  refine W.aald (v := va_rf ((rs.getD i.toNat none).map (az_ad G))) (ty := t) C.1 C.2.1 hc (((rel_K hR).2 t0 _ ht0).1 _ _) htr (fun q => by cases q) (by rw [arrV_size]; exact hv) ?_ rfl rfl hd kk'
  rw [hn, arrV_read _ _ (by omega)]
theorem rz_iast {a : Nat} {i x : Int} {xs : List Int} (hd : decode M.2.1 pc = .ok (.iastore, 1)) (hg : h.1 a = cA .int xs) (h0 : 0 ≤ i) (hi : i < xs.length)
    (kk : ez G M d mc ms (pc + 1) ls st (hset h a (cA .int (xs.set i.toNat x))) Q) : ez G M d mc ms pc ls (vi x :: vi i :: vo a :: st) h Q := by
  intro p e R s m args below meth c H locs cells slots LS Z C hR hl hs hL h1 h2 hk
  have ht : FieldType.int ∈ arrT := by decide
  have hreg : az_reg (h.1 a) := by rw [hg]; exact ht
  obtain ⟨g1, g2⟩ := (rel_g hR) a hreg
  have hok := ((rel_r hR) a g1 g2).2
  rw [hg] at hok
  obtain ⟨t0, ht0⟩ := reg_ty (G := G) ht
  have hc := cell_at hR hreg
  rw [hg, ce_i (by decide)] at hc
  have hc : H[az_ad G a]? = some (vp_cell _ _) := hc
  rw [vp_cell_i] at hc
  have hn := i32_nat (okS_h (okS_t hs))
  refine W.iast C.1 C.2.1 hc (((rel_K hR).2 t0 _ ht0).1 _ _) (fun q => by cases q) (by rw [arrV_size]; exact in_of (okS_h (okS_t hs)) h0 hi) rfl rfl hd fun H1 e1 z oq => ?_
  refine kk p e R s m args below meth c H1 _ cells slots LS Z C (rel_put hR hreg ht (fun y hy => ?_) ?_ z oq) hl (okS_t (okS_t (okS_t hs))) hL h1 h2 hk
  · rcases List.mem_or_eq_of_mem_set hy with hy | rfl
    · exact hok y hy
    · exact okS_h hs
  · rw [ce_i (by decide)]
    show H1[az_ad G a]? = some (vp_cell _ _)
    rw [e1, vp_cell_i, arrV_store, List.length_set]
    refine congrArg some (congrArg (arrV _ _) (funext fun j => ?_))
    rw [gd_set (by omega) (fun y => Value.int (Int32.ofInt y)), hn]
    rfl
theorem rz_last {a : Nat} {i x : Int} {xs : List Int} (hd : decode M.2.1 pc = .ok (.lastore, 1)) (hg : h.1 a = cA .long xs) (h0 : 0 ≤ i) (hi : i < xs.length)
    (kk : ez G M d mc ms (pc + 1) ls st (hset h a (cA .long (xs.set i.toNat x))) Q) : ez G M d mc ms pc ls (vl x :: vi i :: vo a :: st) h Q := by
  intro p e R s m args below meth c H locs cells slots LS Z C hR hl hs hL h1 h2 hk
  have ht : FieldType.long ∈ arrT := by decide
  have hreg : az_reg (h.1 a) := by rw [hg]; exact ht
  obtain ⟨g1, g2⟩ := (rel_g hR) a hreg
  have hok := ((rel_r hR) a g1 g2).2
  rw [hg] at hok
  obtain ⟨t0, ht0⟩ := reg_ty (G := G) ht
  have hc := cell_at hR hreg
  rw [hg, ce_l] at hc
  have hc : H[az_ad G a]? = some (vp_cell _ _) := hc
  rw [vp_cell_l] at hc
  have hn := i32_nat (okS_h (okS_t hs))
  refine W.last C.1 C.2.1 hc (((rel_K hR).2 t0 _ ht0).1 _ _) (fun q => by cases q) (by rw [arrV_size]; exact in_of (okS_h (okS_t hs)) h0 hi) rfl rfl hd fun H1 e1 z oq => ?_
  refine kk p e R s m args below meth c H1 _ cells slots LS Z C (rel_put hR hreg ht (fun y hy => ?_) ?_ z oq) hl (okS_t (okS_t (okS_t hs))) hL h1 h2 hk
  · rcases List.mem_or_eq_of_mem_set hy with hy | rfl
    · exact hok y hy
    · exact okS_h hs
  · rw [ce_l]
    show H1[az_ad G a]? = some (vp_cell _ _)
    rw [e1, vp_cell_l, arrV_store, List.length_set]
    refine congrArg some (congrArg (arrV _ _) (funext fun j => ?_))
    rw [gd_set (by omega) (fun y => Value.long (Int64.ofInt y)), hn]
    rfl
theorem rz_bast {a : Nat} {i x : Int} {xs : List Int} (hd : decode M.2.1 pc = .ok (.bastore, 1)) (hg : h.1 a = cA .byte xs) (h0 : 0 ≤ i) (hi : i < xs.length)
    (kk : ez G M d mc ms (pc + 1) ls st (hset h a (cA .byte (xs.set i.toNat (w8 x)))) Q) : ez G M d mc ms pc ls (vi x :: vi i :: vo a :: st) h Q := by
  intro p e R s m args below meth c H locs cells slots LS Z C hR hl hs hL h1 h2 hk
  have ht : FieldType.byte ∈ arrT := by decide
  have hreg : az_reg (h.1 a) := by rw [hg]; exact ht
  obtain ⟨g1, g2⟩ := (rel_g hR) a hreg
  have hok := ((rel_r hR) a g1 g2).2
  rw [hg] at hok
  obtain ⟨t0, ht0⟩ := reg_ty (G := G) ht
  have hc := cell_at hR hreg
  rw [hg, ce_i (by decide)] at hc
  have hc : H[az_ad G a]? = some (vp_cell _ _) := hc
  rw [vp_cell_i] at hc
  have hn := i32_nat (okS_h (okS_t hs))
  refine W.bast C.1 C.2.1 hc (((rel_K hR).2 t0 _ ht0).1 _ _) (fun q => by cases q) (by rw [arrV_size]; exact in_of (okS_h (okS_t hs)) h0 hi) rfl rfl hd fun H1 e1 z oq => ?_
  refine kk p e R s m args below meth c H1 _ cells slots LS Z C (rel_put hR hreg ht (fun y hy => ?_) ?_ z oq) hl (okS_t (okS_t (okS_t hs))) hL h1 h2 hk
  · rcases List.mem_or_eq_of_mem_set hy with hy | rfl
    · exact hok y hy
    · exact ⟨by unfold w8; omega, by unfold w8; omega⟩
  · rw [ce_i (by decide)]
    show H1[az_ad G a]? = some (vp_cell _ _)
    rw [e1, vp_cell_i, arrV_store, List.length_set]
    refine congrArg some (congrArg (arrV _ _) (funext fun j => ?_))
    rw [gd_set (by omega) (fun y => Value.int (Int32.ofInt y)), hn, show narrow .byte (.int (Int32.ofInt x)) = .int (Int32.ofInt (w8 x)) from congrArg Value.int (w8_of x)]
    rfl
theorem rz_zast {a : Nat} {i x : Int} {xs : List Int} (hd : decode M.2.1 pc = .ok (.bastore, 1)) (hg : h.1 a = cA .boolean xs) (h0 : 0 ≤ i) (hi : i < xs.length) (hx : x = 0 ∨ x = 1)
    (kk : ez G M d mc ms (pc + 1) ls st (hset h a (cA .boolean (xs.set i.toNat x))) Q) : ez G M d mc ms pc ls (vi x :: vi i :: vo a :: st) h Q := by
  intro p e R s m args below meth c H locs cells slots LS Z C hR hl hs hL h1 h2 hk
  have ht : FieldType.boolean ∈ arrT := by decide
  have hreg : az_reg (h.1 a) := by rw [hg]; exact ht
  obtain ⟨g1, g2⟩ := (rel_g hR) a hreg
  have hok := ((rel_r hR) a g1 g2).2
  rw [hg] at hok
  obtain ⟨t0, ht0⟩ := reg_ty (G := G) ht
  have hc := cell_at hR hreg
  rw [hg, ce_i (by decide)] at hc
  have hc : H[az_ad G a]? = some (vp_cell _ _) := hc
  rw [vp_cell_i] at hc
  have hn := i32_nat (okS_h (okS_t hs))
  refine W.zast C.1 C.2.1 hc (((rel_K hR).2 t0 _ ht0).1 _ _) (fun q => by cases q) (by rw [arrV_size]; exact in_of (okS_h (okS_t hs)) h0 hi) rfl rfl hd fun H1 e1 z oq => ?_
  refine kk p e R s m args below meth c H1 _ cells slots LS Z C (rel_put hR hreg ht (fun y hy => ?_) ?_ z oq) hl (okS_t (okS_t (okS_t hs))) hL h1 h2 hk
  · rcases List.mem_or_eq_of_mem_set hy with hy | rfl
    · exact hok y hy
    · exact ⟨by omega, by omega⟩
  · rw [ce_i (by decide)]
    show H1[az_ad G a]? = some (vp_cell _ _)
    rw [e1, vp_cell_i, arrV_store, List.length_set]
    refine congrArg some (congrArg (arrV _ _) (funext fun j => ?_))
    rw [gd_set (by omega) (fun y => Value.int (Int32.ofInt y)), hn, show narrow .boolean (.int (Int32.ofInt x)) = .int (Int32.ofInt x) by rcases hx with rfl | rfl <;> rfl]
    rfl
/-- a reference is stored: null, or an object of the array's own class -/
theorem rz_aast {a ci : Nat} {i : Int} {C0 : String} {T0 : u_T} {N0 : Nat} {r : Option Nat} {rs : List (Option Nat)} (hd : decode M.2.1 pc = .ok (.aastore, 1)) (hg : h.1 a = cR (.object C0) rs) (ht : FieldType.object C0 ∈ arrT) (hc0 : classes[ci]? = some (C0, T0, N0)) (hr : ∀ b, r = some b → ∃ fs, h.1 b = cO ci fs) (h0 : 0 ≤ i) (hi : i < rs.length)
    (kk : ez G M d mc ms (pc + 1) ls st (hset h a (cR (.object C0) (rs.set i.toNat r))) Q) : ez G M d mc ms pc ls (vr r :: vi i :: vo a :: st) h Q := by
  intro p e R s m args below meth c H locs cells slots LS Z C hR hl hs hL h1 h2 hk
  have hreg : az_reg (h.1 a) := by rw [hg]; exact ht
  obtain ⟨g1, g2⟩ := (rel_g hR) a hreg
  obtain ⟨t0, ht0⟩ := reg_ty (G := G) ht
  have hc := cell_at hR hreg
  rw [hg] at hc
  have hc : H[az_ad G a]? = some (vp_cell (G.2.2.1 (.object C0)) (rs.length, .inr (.inr (.inr (.inr fun j => (rs.getD j none).map (az_ad G)))))) := hc
  rw [vp_cell_q] at hc
  have hn := i32_nat (okS_h (okS_t hs))
  have hv := in_of (okS_h (okS_t hs)) h0 hi
  have hK := (rel_K hR)
  have fin' : ∀ H1 : Heap, H1[az_ad G a]? = some ((arrV (G.2.2.1 (.object C0)) rs.length (fun j => va_rf ((rs.getD j none).map (az_ad G)))).setSlot (Int32.ofInt i).toNatClampNeg (va_rf (r.map (az_ad G)))) → H1.size = H.size → (∀ q, q ≠ az_ad G a → H1[q]? = H[q]?) →
      W p G.1 e R s m args below meth c H1 (locs ++ [⟨az_ad G a, (Int32.ofInt i).toNatClampNeg⟩]) cells slots Z (F0 m (pc + 1) LS (st.map (az_cv G))) := by
    intro H1 e1 z oq
    refine kk p e R s m args below meth c H1 _ cells slots LS Z C (rel_put hR hreg ht trivial ?_ z oq) hl (okS_t (okS_t (okS_t hs))) hL h1 h2 hk
    show H1[az_ad G a]? = some (vp_cell _ (_, .inr (.inr (.inr (.inr _)))))
    rw [e1, vp_cell_q, arrV_store, List.length_set]
    refine congrArg some (congrArg (arrV _ _) (funext fun j => ?_))
    rw [gd_set (by omega) (fun y : Option Nat => va_rf (y.map (az_ad G))), hn]
    rfl
  cases r with
  | none => exact va_WaastN (C := C0) C.1 C.2.1 hc ((hK.2 t0 _ ht0).1 _ _) (fun q => by cases q) (by rw [arrV_size]; exact hv) rfl rfl hd fin'
  | some b =>
    obtain ⟨fs, hb⟩ := hr b rfl
    have hat := cell_at hR (a := b) (by rw [hb]; exact ⟨_, hc0⟩)
    rw [hb] at hat
    obtain ⟨r', hr', cellV, q1, q2, q3, -⟩ := hat
    have hcls := (hK.1 ci _ hc0).2
    obtain ⟨kA, comp, k1, k2, k3, -⟩ := (hK.2 t0 _ ht0).2
    have hcomp : comp = G.2.1.1 ci := Option.some.inj (k3.symm.trans hcls.1)
    subst hcomp
    obtain ⟨kC, hkC, -⟩ := hcls.2
    have h0' : ¬ Int32.ofInt i < 0 := fun q => hv (Or.inl q)
    exact W.aast C.1 C.2.1 hc (fun q h => by cases h) (fun h => by cases h) k1 k2 rfl hkC ⟨h0', by rw [arrV_size]; exact Nat.not_le.mp fun q => hv (Or.inr q)⟩ q1 (fun q h => by rw [q3] at h; cases h) (by rw [q2]; exact hkC) (by rw [q2]; exact va_assign hcls) rfl rfl hd fin'
end RA
