/-! making cells; returns -/
def az_dv (t : FieldType) : az_V := match t with
  | .long => vl 0
  | .object _ => vn
  | .array _ => vn
  | .float => vn
  | .double => vn
  | _ => vi 0
def az_nf (t : FieldType) : Bool := match t with
  | .float => false
  | .double => false
  | _ => true
theorem dv_of {G : az_G} {t : FieldType} (h : az_nf t = true) : az_cv G (az_dv t) = defaultValue t := by
  cases t <;> first | rfl | cases h
theorem dv_ok (t : FieldType) : az_ok (az_dv t) := by
  cases t <;> simp [az_dv, az_ok]
/-- in class own the entry index is class ci, whose new objects hold fs -/
def az_nw (own : String) (index ci : Nat) (fs : List az_V) : Prop :=
  ∃ (C : String) (T : u_T) (N : Nat) (ty : Nat → FieldType), az_cls ci C T N ty ∧ Cond.classLink own index C ∈ lw_tbl ∧ Cond.instantiable C N ∈ lw_tbl ∧ Cond.initialized C ∈ lw_tbl ∧ (List.range N).map (fun j => az_dv (ty j)) = fs ∧ (List.range N).all (fun j => az_nf (ty j)) = true
section RN
variable {G : az_G} {M : az_M} {d mc ms pc : Nat} {ls : List (Option az_V)} {st : List az_V} {h : az_H} {Q : Option az_V → az_H → Prop}
theorem sz_of {s : State} {H : Heap} {locs : List Loc} (hR : az_Rel G s h H locs) : az_ad G h.2 = H.size := by
  have h1 := rel_n hR
  have h2 := rel_z hR
  rw [ad_of h1]
  omega
theorem rz_new {index ci : Nat} {fs : List az_V} (hd : decode M.2.1 pc = .ok (.new index, 3)) (hn : az_nw M.1.cls index ci fs)
    (kk : ez G M d mc ms (pc + 3) ls (vo h.2 :: st) (hpsh h (cO ci fs)) Q) : ez G M d (mc + 1) (ms + fs.length) pc ls st h Q := by
  intro p e R s m args below meth c H locs cells slots LS Z C hR hl hs hL h1 h2 hk
  obtain ⟨Cn, T, N, ty, ⟨hc, hin, hty, hnm⟩, hcl, hins, hini, hfs, hnf⟩ := hn
  have hlen : fs.length = N := by rw [← hfs]; simp
  have hKn := (rel_K hR).1 ci _ hc
  have hts : ∀ w ∈ u_ws Cn T N, w.before args s = true := fun w hw => C.2.2.2.2.2.1 w (hin w hw) (good_ws hw)
  refine W.newcK C.1 C.2.1 C.2.2.2.2.1 (C.2.2.2.2.2.1 _ hcl rfl) (C.2.2.2.2.2.1 _ hins rfl) (C.2.2.2.2.2.1 _ hini rfl) rfl hd (by omega) (by omega) hKn.2.1 (sz_of hR).symm fun H1 kC hkC e1 z1 o1 => ?_
  have hok : az_okC (cO ci fs) := by
    refine ⟨fun v hv => ?_, ⟨_, hc, hlen⟩⟩
    rw [← hfs] at hv
    obtain ⟨j, -, rfl⟩ := List.mem_map.mp hv
    exact dv_ok _
  have he : va_at G.2.1 classes (az_ad G h.2, az_ce G (cO ci fs)) H1 := by
    refine ⟨_, hc, (u_born ty hts (fun _ h => h) hKn hkC e1 hty).to (fun j hj => ?_)⟩
    have hnf' := List.all_eq_true.mp hnf j (List.mem_range.mpr hj)
    rw [← dv_of (G := G) hnf', ← hfs]
    simp [vp_V, hj]
  have kk' := kk p e R s m args below meth c H1 locs (cells + 1) (slots + N) LS Z C (rel_psh hR ⟨_, hc⟩ hok he (by rw [← sz_of hR]; exact z1) (by rw [← sz_of hR]; exact o1)) hl (okS_c (v := vo h.2) trivial hs) hL (by omega) (by omega)
    (by rw [show cells + 1 + mc = cells + (mc + 1) by omega, show slots + N + ms = slots + (ms + fs.length) by omega]; exact hk)
  exact kk'
theorem rz_newa {atype : ArrayType} {t : FieldType} {n : Int} (hd : decode M.2.1 pc = .ok (.newarray atype, 2)) (hty : newarray.typeOf atype = t) (ht : t ∈ arrT) (hw : Cond.arrayClass t ∈ lw_tbl) (h0 : 0 ≤ n) (hn : n ≤ 1000000)
    (kk : ez G M d mc ms (pc + 2) ls (vo h.2 :: st) (hpsh h (cA t (List.replicate n.toNat 0))) Q) : ez G M d (mc + 1) (ms + n.toNat) pc ls (vi n :: st) h Q := by
  intro p e R s m args below meth c H locs cells slots LS Z C hR hl hs hL h1 h2 hk
  have hi := i32_nat (okS_h hs)
  have hnn : ¬ Int32.ofInt n < 0 := by
    rw [show (0 : Int32) = Int32.ofInt 0 from rfl, i32_lt (okS_h hs) (by decide)]
    omega
  have hcb : componentBytes t ≤ 8 := by
    subst hty
    cases atype <;> decide
  subst hty
  refine va_newaK C.1 C.2.1 (C.2.2.2.2.2.1 _ hw rfl) (g := F0 m pc LS ((vi n :: st).map (az_cv G))) rfl hd (n := Int32.ofInt n) (rest := st.map (az_cv G)) rfl hnn hi (by
    have : n.toNat * componentBytes (newarray.typeOf atype) ≤ 1000000 * 8 := Nat.mul_le_mul (by omega) hcb
    omega) (by omega) (by omega) (sz_of hR).symm fun H1 cA' e1 z1 o1 hAr hNm => ?_
  obtain ⟨t0, ht0⟩ := reg_ty (G := G) ht
  have hcA : cA' = G.2.2.1 (newarray.typeOf atype) := by
    have h3 := ((rel_K hR).2 t0 _ ht0).2
    cases atype <;> exact Option.some.inj (hNm.symm.trans h3)
  subst hcA
  have he : va_at G.2.1 classes (az_ad G h.2, az_ce G (cA (newarray.typeOf atype) (List.replicate n.toNat 0))) H1 := by
    by_cases hl0 : newarray.typeOf atype = .long
    · rw [hl0] at e1 ⊢
      rw [ce_l]
      show H1[az_ad G h.2]? = some (vp_cell _ _)
      rw [e1, vp_cell_l, List.length_replicate]
      refine congrArg some (congrArg (arrV _ _) (funext fun j => ?_))
      simp [defaultValue, List.getElem?_replicate]
      split <;> rfl
    · rw [ce_i hl0]
      show H1[az_ad G h.2]? = some (vp_cell _ _)
      rw [e1, vp_cell_i, List.length_replicate]
      refine congrArg some (congrArg (arrV _ _) (funext fun j => ?_))
      have hz : ((List.replicate n.toNat (0 : Int)).getD j 0) = 0 := by
        simp [List.getElem?_replicate]
        split <;> rfl
      rw [hz]
      cases atype <;> first | rfl | (exfalso; revert ht; decide) | exact absurd rfl hl0
  have hok : az_okC (cA (newarray.typeOf atype) (List.replicate n.toNat 0)) := fun x hx => by
    rw [(List.mem_replicate.mp hx).2]
    cases atype <;> simp [az_okt, newarray.typeOf]
  exact kk p e R s m args below meth c H1 locs (cells + 1) (slots + n.toNat) LS Z C (rel_psh hR ht hok he (by rw [← sz_of hR]; exact z1) (by rw [← sz_of hR]; exact o1)) hl (okS_c (v := vo h.2) trivial (okS_t hs)) hL (by omega) (by omega)
    (by rw [show cells + 1 + mc = cells + (mc + 1) by omega, show slots + n.toNat + ms = slots + (ms + n.toNat) by omega]; exact hk)
theorem rz_anew {index : Nat} {C0 : String} {n : Int} (hd : decode M.2.1 pc = .ok (.anewarray index, 3)) (ht : FieldType.object C0 ∈ arrT) (hw : Cond.classLink M.1.cls index C0 ∈ lw_tbl) (ho : Cond.arrayOver (.object C0) ∈ lw_ex) (h0 : 0 ≤ n) (hn : n ≤ 1000000)
    (kk : ez G M d mc ms (pc + 3) ls (vo h.2 :: st) (hpsh h (cR (.object C0) (List.replicate n.toNat none))) Q) : ez G M d (mc + 1) (ms + n.toNat) pc ls (vi n :: st) h Q := by
  intro p e R s m args below meth c H locs cells slots LS Z C hR hl hs hL h1 h2 hk
  have hi := i32_nat (okS_h hs)
  have hnn : ¬ Int32.ofInt n < 0 := by
    rw [show (0 : Int32) = Int32.ofInt 0 from rfl, i32_lt (okS_h hs) (by decide)]
    omega
  refine W.anew C.1 C.2.1 C.2.2.2.2.1 (C.2.2.2.2.2.1 _ hw rfl) (va_AO.use (hR.2.2.2.2.2.1 _ ho)) (g := F0 m pc LS ((vi n :: st).map (az_cv G))) rfl hd (n := Int32.ofInt n) (rest := st.map (az_cv G)) rfl hnn (by rw [hi]; omega) (by omega) (by rw [hi]; omega) fun cA' kA comp f1 f2 f3 f4 => ?_
  obtain ⟨t0, ht0⟩ := reg_ty (G := G) ht
  have hcA : cA' = G.2.2.1 (.object C0) := by
    obtain ⟨kA', comp', -, -, -, h4⟩ := ((rel_K hR).2 t0 _ ht0).2
    exact Option.some.inj (f1.symm.trans h4)
  subst hcA
  rw [hi]
  generalize hH1 : H.push ({ cls := G.2.2.1 (.object C0), slots := Array.replicate n.toNat .null, vm := .none } : Cell) = H1
  have z1 : H1.size = H.size + 1 := by rw [← hH1, Array.size_push]
  have o1 : ∀ q, q < H.size → H1[q]? = H[q]? := fun q hq => by
    rw [← hH1, Array.getElem?_push, if_neg (Nat.ne_of_lt hq)]
  have he : va_at G.2.1 classes (az_ad G h.2, az_ce G (cR (.object C0) (List.replicate n.toNat none))) H1 := by
    show H1[az_ad G h.2]? = some (vp_cell _ (_, .inr (.inr (.inr (.inr _)))))
    rw [← hH1, sz_of hR, Array.getElem?_push, if_pos rfl, arrV_new, vp_cell_q, List.length_replicate]
    refine congrArg some (congrArg (arrV _ _) (funext fun j => ?_))
    have hz : ((List.replicate n.toNat (none : Option Nat)).getD j none) = none := by
      simp [List.getElem?_replicate]
      try (split <;> rfl)
    rw [hz]
    rfl
  rw [show Value.ref H.size = az_cv G (vo h.2) by rw [← sz_of hR]; rfl]
  exact kk p e R s m args below meth c H1 locs (cells + 1) (slots + n.toNat) LS Z C (rel_psh hR ht trivial he z1 o1) hl (okS_c (v := vo h.2) trivial (okS_t hs)) hL (by omega) (by omega)
    (by rw [show cells + 1 + mc = cells + (mc + 1) by omega, show slots + n.toNat + ms = slots + (ms + n.toNat) by omega]; exact hk)
/-! returns -/
theorem rz_ret {v : Option az_V} (hd : decode M.2.1 pc = .ok (az_ri v, 1)) (hr : az_rt M.2.2.2 v) (hq : Q v h) : ez G M d mc ms pc ls v.toList h Q := by
  intro p e R s m args below meth c H locs cells slots LS Z C hR hl hs hL h1 h2 hk
  refine W.widen (Nat.le_add_right cells mc) (Nat.le_add_right slots ms) ?_
  have k := hk pc LS v h H locs hR (fun x e => hs x (by rw [e]; simp)) hr hq hd
  cases v <;> exact k
theorem rz_iret {x : Int} (hd : decode M.2.1 pc = .ok (.ireturn, 1)) (hr : az_rt M.2.2.2 (some (vi x))) (hq : Q (some (vi x)) h) : ez G M d mc ms pc ls [vi x] h Q := rz_ret (v := some (vi x)) hd hr hq
theorem rz_lret {x : Int} (hd : decode M.2.1 pc = .ok (.lreturn, 1)) (hr : az_rt M.2.2.2 (some (vl x))) (hq : Q (some (vl x)) h) : ez G M d mc ms pc ls [vl x] h Q := rz_ret (v := some (vl x)) hd hr hq
theorem rz_aret {r : Option Nat} (hd : decode M.2.1 pc = .ok (.areturn, 1)) (hr : az_rt M.2.2.2 (some (vr r))) (hq : Q (some (vr r)) h) : ez G M d mc ms pc ls [vr r] h Q := rz_ret (v := some (vr r)) hd hr hq
theorem rz_vret (hd : decode M.2.1 pc = .ok (.return_, 1)) (hr : az_rt M.2.2.2 none) (hq : Q none h) : ez G M d mc ms pc ls [] h Q := rz_ret (v := none) hd hr hq
/-! the judgement itself -/
theorem ez_mono {Q' : Option az_V → az_H → Prop} (hq : ∀ v h', Q v h' → Q' v h') (kk : ez G M d mc ms pc ls st h Q) : ez G M d mc ms pc ls st h Q' := by
  intro p e R s m args below meth c H locs cells slots LS Z C hR hl hs hL h1 h2 hk
  exact kk p e R s m args below meth c H locs cells slots LS Z C hR hl hs hL h1 h2 (fun pc' LS' v h' H' locs' r1 r2 r0 r3 r4 => hk pc' LS' v h' H' locs' r1 r2 r0 (hq v h' r3) r4)
/-- more room than is used -/
theorem ez_wide {mc' ms' : Nat} (h1 : mc ≤ mc') (h2 : ms ≤ ms') (kk : ez G M d mc ms pc ls st h Q) : ez G M d mc' ms' pc ls st h Q := by
  intro p e R s m args below meth c H locs cells slots LS Z C hR hl hs hL g1 g2 hk
  refine W.widen (Nat.le_add_right cells (mc' - mc)) (Nat.le_add_right slots (ms' - ms)) ?_
  exact kk p e R s m args below meth c H locs (cells + (mc' - mc)) (slots + (ms' - ms)) LS Z C hR hl hs hL (by omega) (by omega) (by rw [show cells + (mc' - mc) + mc = cells + mc' by omega, show slots + (ms' - ms) + ms = slots + ms' by omega]; exact hk)
/-- the numbers that are held are the machine's: this may be used -/
theorem ez_ok (kk : az_okL ls → az_okS st → (∀ i, 16 ≤ i → i < h.2 → az_reg (h.1 i) ∧ az_okC (h.1 i)) → (∀ i, az_reg (h.1 i) → 16 ≤ i ∧ i < h.2) → ez G M d mc ms pc ls st h Q) : ez G M d mc ms pc ls st h Q := by
  intro p e R s m args below meth c H locs cells slots LS Z C hR hl hs hL h1 h2 hk
  exact kk hl hs (rel_r hR) (rel_g hR) p e R s m args below meth c H locs cells slots LS Z C hR hl hs hL h1 h2 hk
end RN
