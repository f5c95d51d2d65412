/-! the script; System.arraycopy -/
def cpyL (xs ys : List Int) (sp dp n : Nat) : List Int := ys.take dp ++ ((xs.drop sp).take n ++ ys.drop (dp + n))
theorem cpyL_len {xs ys : List Int} {sp dp n : Nat} (h1 : sp + n ≤ xs.length) (h2 : dp + n ≤ ys.length) : (cpyL xs ys sp dp n).length = ys.length := by
  unfold cpyL
  simp
  omega
theorem cpyL_gd {xs ys : List Int} {sp dp n : Nat} (h1 : sp + n ≤ xs.length) (h2 : dp + n ≤ ys.length) (k : Nat) : (cpyL xs ys sp dp n).getD k 0 = if dp ≤ k ∧ k < dp + n then xs.getD (sp + (k - dp)) 0 else ys.getD k 0 := by
  unfold cpyL
  rw [List.getD_eq_getElem?_getD, List.getElem?_append, List.getElem?_append]
  simp only [List.length_take, List.length_drop, List.getElem?_take, List.getElem?_drop]
  by_cases c1 : k < dp
  · rw [if_pos (by omega), if_pos c1, if_neg (by omega), ← List.getD_eq_getElem?_getD]
  · rw [if_neg (by omega)]
    by_cases c2 : k < dp + n
    · rw [if_pos (by omega), if_pos (by omega), if_pos (by omega), ← List.getD_eq_getElem?_getD]
      congr 1
      omega
    · rw [if_neg (by omega), if_neg (by omega), ← List.getD_eq_getElem?_getD]
      congr 1
      omega
theorem cpyL_mem {xs ys : List Int} {sp dp n : Nat} {x : Int} (h : x ∈ cpyL xs ys sp dp n) : x ∈ xs ∨ x ∈ ys := by
  unfold cpyL at h
  rcases List.mem_append.mp h with h | h
  · exact Or.inr (List.mem_of_mem_take h)
  · rcases List.mem_append.mp h with h | h
    · exact Or.inl (List.mem_of_mem_drop (List.mem_of_mem_take h))
    · exact Or.inr (List.mem_of_mem_drop h)
theorem cpyL_fn {xs ys : List Int} {sp dp n : Nat} (h1 : sp + n ≤ xs.length) (h2 : dp + n ≤ ys.length) : (fun j => Int32.ofInt ((cpyL xs ys sp dp n).getD j 0)) = va_cpy (fun j => Int32.ofInt (xs.getD j 0)) (fun j => Int32.ofInt (ys.getD j 0)) sp dp n := by
  funext j
  rw [cpyL_gd h1 h2]
  unfold va_cpy
  split <;> rfl
section RM
variable {G : az_G} {M : az_M} {d mc ms pc : Nat} {ls : List (Option az_V)} {st : List az_V} {h : az_H} {Q : Option az_V → az_H → Prop}
theorem rz_sld {i : Int} {xs : List Int} (hd : decode M.2.1 pc = .ok (.iaload, 1)) (hg : h.1 0 = cA .float xs) (h0 : 0 ≤ i) (hi : i < xs.length)
    (kk : ez G M d mc ms (pc + 1) ls (vi (xs.getD i.toNat 0) :: st) h Q) : ez G M d mc ms pc ls (vi i :: vo 0 :: st) h Q := by
  intro p e R s m args below meth c H locs cells slots LS Z C hR hl hs hL h1 h2 hk
  have hc0 := hR.1.2.2.2.2.2.1 0 (by decide)
  rw [hg] at hc0
  obtain ⟨x1, x2, x3, x4⟩ := hR.2.2.2.2.1 xs hc0.symm
  have hS := hR.2.2.2.1
  have hb : G.2.2.2.2.1 0 < H.size := Nat.lt_of_lt_of_le x1 (Nat.le_trans hR.2.1 hS.1)
  have kk' := kk p e R s m args below meth c H locs cells slots LS Z C hR hl (okS_c (v := vi (xs.getD i.toNat 0)) (x4 _ (gd_mem (by omega))) (okS_t (okS_t hs))) hL h1 h2 hk
  refine va_sld (A := az_A G) (H0 := H) C.1 C.2.1 x2 hb (Nat.not_le.mpr x1) ⟨Nat.le_refl _, fun _ _ _ => rfl, hS.2.2⟩ (in_of (okS_h hs) h0 hi) hd ?_
  rw [i32_nat (okS_h hs)]
  exact kk'
theorem rz_slen {n : Int} {xs : List Int} (hd : decode M.2.1 pc = .ok (.arraylength, 1)) (hg : h.1 0 = cA .float xs) (hn : (xs.length : Int) = n)
    (kk : ez G M d mc ms (pc + 1) ls (vi n :: st) h Q) : ez G M d mc ms pc ls (vo 0 :: st) h Q := by
  intro p e R s m args below meth c H locs cells slots LS Z C hR hl hs hL h1 h2 hk
  have hc0 := hR.1.2.2.2.2.2.1 0 (by decide)
  rw [hg] at hc0
  obtain ⟨x1, x2, x3, x4⟩ := hR.2.2.2.2.1 xs hc0.symm
  have hS := hR.2.2.2.1
  have hb : G.2.2.2.2.1 0 < H.size := Nat.lt_of_lt_of_le x1 (Nat.le_trans hR.2.1 hS.1)
  subst hn
  have kk' := kk p e R s m args below meth c H locs cells slots LS Z C hR hl (okS_c (v := vi xs.length) ⟨by omega, by omega⟩ (okS_t hs)) hL h1 h2 hk
  exact va_slen (A := az_A G) (H0 := H) C.1 C.2.1 x2 hb (Nat.not_le.mpr x1) ⟨Nat.le_refl _, fun _ _ _ => rfl, hS.2.2⟩ hd kk'
theorem nn_of {z : Int} (hz : -2147483648 ≤ z ∧ z < 2147483648) (h0 : 0 ≤ z) : ¬ Int32.ofInt z < 0 := by
  rw [show (0 : Int32) = Int32.ofInt 0 from rfl, i32_lt hz (by decide)]
  omega
theorem rz_acpy {a0 a index : Nat} {sp dp n : Int} {xs ys : List Int} (hd : decode M.2.1 pc = .ok (.invokestatic index, 3)) (hl : Cond.methodLink M.1.cls index arraycopyName ∈ lw_tbl) (hnat : Cond.native arraycopyName ∈ lw_tbl) (hsta : Cond.static arraycopyName ∈ lw_tbl) (hini : Cond.initialized "java/lang/System" ∈ lw_tbl)
    (hg0 : h.1 a0 = cA .int xs) (hg1 : h.1 a = cA .int ys) (h0 : 0 ≤ sp) (h1 : 0 ≤ dp) (h2 : 0 ≤ n) (h3 : sp + n ≤ xs.length) (h4 : dp + n ≤ ys.length) (hw : az_wd st ≤ 8)
    (kk : ez G M (d + 1) mc ms (pc + 3) ls st (hset h a (cA .int (cpyL xs ys sp.toNat dp.toNat n.toNat))) Q) : ez G M (d + 1) mc ms pc ls (vi n :: vi dp :: vo a :: vi sp :: vo a0 :: st) h Q := by
  intro p e R s m args below meth c H locs cells slots LS Z C hR hll hs hL g1 g2 hk
  intro T hT X
  have ht : FieldType.int ∈ arrT := by decide
  have hreg0 : az_reg (h.1 a0) := by rw [hg0]; exact ht
  have hreg : az_reg (h.1 a) := by rw [hg1]; exact ht
  obtain ⟨b1, b2⟩ := rel_g hR a hreg
  obtain ⟨c1, c2⟩ := rel_g hR a0 hreg0
  have hok1 := (rel_r hR a b1 b2).2
  rw [hg1] at hok1
  have hok0 := (rel_r hR a0 c1 c2).2
  rw [hg0] at hok0
  obtain ⟨t0, ht0⟩ := reg_ty (G := G) ht
  have hA := ((rel_K hR).2 t0 _ ht0).1
  have hc0 := cell_at hR hreg0
  rw [hg0, ce_i (by decide)] at hc0
  have hc0 : H[az_ad G a0]? = some (vp_cell (G.2.2.1 .int) (xs.length, .inl fun j => Int32.ofInt (xs.getD j 0))) := hc0
  have hc1 := cell_at hR hreg
  rw [hg1, ce_i (by decide)] at hc1
  have hc1 : H[az_ad G a]? = some (vp_cell (G.2.2.1 .int) (ys.length, .inl fun j => Int32.ofInt (ys.getD j 0))) := hc1
  have on := okS_h hs
  have od := okS_h (okS_t hs)
  have os := okS_h (okS_t (okS_t (okS_t hs)))
  have en := i32_nat on
  have ed := i32_nat od
  have es := i32_nat os
  have tn : (Int32.ofInt n).toInt = n := by rw [w32_toInt, w32_id on.1 on.2]
  have td : (Int32.ofInt dp).toInt = dp := by rw [w32_toInt, w32_id od.1 od.2]
  have ts : (Int32.ofInt sp).toInt = sp := by rw [w32_toInt, w32_id os.1 os.2]
  obtain ⟨-, k0, hk0, cm0, hkk0⟩ := hA xs.length (fun j => .int (Int32.ofInt (xs.getD j 0)))
  obtain ⟨-, k1, hk1, cm1, hkk1⟩ := hA ys.length (fun j => .int (Int32.ofInt (ys.getD j 0)))
  have h9 := C.2.2.2.2.2.2.2.2
  obtain ⟨vm', X', step⟩ := X.arraycopy C.1 C.2.2.2.2.1 (C.2.2.2.2.2.1 _ hl rfl) (C.2.2.2.2.2.1 _ hnat rfl) (C.2.2.2.2.2.1 _ hsta rfl) (C.2.2.2.2.2.1 _ hini rfl) (src := az_ad G a0) (dst := az_ad G a) (cs := vp_cell (G.2.2.1 .int) (xs.length, .inl fun j => Int32.ofInt (xs.getD j 0))) (cd := vp_cell (G.2.2.1 .int) (ys.length, .inl fun j => Int32.ofInt (ys.getD j 0))) (srcPos := Int32.ofInt sp) (destPos := Int32.ofInt dp) (n := Int32.ofInt n) (by rw [hT]; exact hc0) (by rw [hT]; exact hc1)
    (fun _ h => by cases h) (fun _ h => by cases h) (fun h => by cases h) (fun h => by cases h) hk0 hk1 hkk0 hkk1 rfl (nn_of os h0) (nn_of od h1) (nn_of on h2)
    (by rw [ts, tn]; show ¬ _ > ((arrV _ xs.length _).slots.size : Int); rw [arrV_size]; omega)
    (by rw [td, tn]; show ¬ _ > ((arrV _ ys.length _).slots.size : Int); rw [arrV_size]; omega)
    (fun vm₁ _ i hi => by
      have e : (vp_cell (G.2.2.1 .int) (xs.length, .inl fun j => Int32.ofInt (xs.getD j 0))).slots.getD ((Int32.ofInt sp).toNatClampNeg + i) .null = .int (Int32.ofInt (xs.getD ((Int32.ofInt sp).toNatClampNeg + i) 0)) := by
        show (arrV _ xs.length (fun j => .int (Int32.ofInt (xs.getD j 0)))).slots.getD _ _ = _
        rw [Array.getD_eq_getD_getElem?, arrV_read _ _ (by rw [es]; rw [en] at hi; omega)]
        rfl
      refine ⟨?_, ?_⟩
      · rw [e]
        rfl
      · rw [e]
        exact trivial)
    (g := F0 m pc LS ((vi n :: vi dp :: vo a :: vi sp :: vo a0 :: st).map (az_cv G))) rfl (by rw [C.2.2.1]; exact hL.1) (rest := st.map (az_cv G)) rfl (by rw [C.2.1]; exact hd) (by omega) (by
      show 2 * 0 + _ + _ ≤ _
      have : nativeFrameWords "java/lang/System" "arraycopy" 5 ≤ 40 := by decide
      rw [wd_of]
      omega)
  have e1 : copied (vp_cell (G.2.2.1 .int) (xs.length, .inl fun j => Int32.ofInt (xs.getD j 0))) (vp_cell (G.2.2.1 .int) (ys.length, .inl fun j => Int32.ofInt (ys.getD j 0))) (Int32.ofInt sp) (Int32.ofInt dp) (Int32.ofInt n) = vp_cell (G.2.2.1 .int) (ys.length, .inl (va_cpy (fun j => Int32.ofInt (xs.getD j 0)) (fun j => Int32.ofInt (ys.getD j 0)) (Int32.ofInt sp).toNatClampNeg (Int32.ofInt dp).toNatClampNeg (Int32.ofInt n).toNatClampNeg)) := va_copied (fun z => .int z) (G.2.2.1 .int) (G.2.2.1 .int) (fun j => Int32.ofInt (xs.getD j 0)) (fun j => Int32.ofInt (ys.getD j 0)) (show (Int32.ofInt sp).toNatClampNeg + (Int32.ofInt n).toNatClampNeg ≤ xs.length by rw [es, en]; omega)
  rw [e1, es, ed, en, ← cpyL_fn (by omega) (by omega)] at X' step
  have hlt : az_ad G a < H.size := (Array.getElem?_eq_some_iff.mp hc1).1
  generalize hnew : vp_cell (G.2.2.1 .int) (ys.length, Sum.inl fun j => Int32.ofInt ((cpyL xs ys sp.toNat dp.toNat n.toNat).getD j 0)) = nc at X' step
  have hheap : ((T.setVm vm').setCell (az_ad G a) nc).heap = H.setIfInBounds (az_ad G a) nc := by rw [← hT]; rfl
  have oq : ∀ q : Nat, q ≠ az_ad G a → (H.setIfInBounds (az_ad G a) nc)[q]? = H[q]? := fun q hq => by simp [Array.getElem?_setIfInBounds, Ne.symm hq]
  have hb : G.2.2.2.1 ≤ az_ad G a := by rw [ad_of b1]; exact Nat.le_add_right _ _
  have hRel0 : az_Rel G s (hset h a (cA .int (cpyL xs ys sp.toNat dp.toNat n.toNat))) (H.setIfInBounds (az_ad G a) nc) (locs ++ [⟨az_ad G a, 0⟩]) := by
    refine rel_put hR hreg ht (fun y hy => ?_) ?_ (by simp) oq
    · rcases cpyL_mem hy with hy | hy
      · exact hok0 y hy
      · exact hok1 y hy
    · rw [ce_i (by decide), cpyL_len (by omega) (by omega)]
      show (H.setIfInBounds (az_ad G a) nc)[az_ad G a]? = some (vp_cell _ _)
      rw [hnew]
      simp [Array.getElem?_setIfInBounds, hlt]
  obtain ⟨r1, r2, r3, r4, r5⟩ := hRel0
  have hS2 : ∀ L : List Loc, (∀ q ∈ L, q.base = az_ad G a) → va_S (az_A G) s.heap (H.setIfInBounds (az_ad G a) nc) (locs ++ L) := fun L hL2 => ⟨r4.1, r4.2.1, fun q hq => by
    rcases List.mem_append.mp hq with h | h
    · exact r4.2.2 q (List.mem_append_left _ h)
    · rw [hL2 q h]; exact hb⟩
  obtain ⟨t, a1, a2⟩ := kk p e R s m args below meth c _ _ cells slots LS Z C ⟨r1, r2, r3, hS2 _ (fun q hq => by
    obtain ⟨z, -, hz⟩ := List.mem_map.mp hq
    rw [← hz]), r5⟩ hll (okS_t (okS_t (okS_t (okS_t (okS_t hs))))) hL g1 g2 hk _ hheap X'
  exact ⟨t, step t a1, a2⟩
end RM
