/-! String constants: the rules -/
section RSK
variable {G : az_G} {M : az_M} {d mc ms pc : Nat} {ls : List (Option az_V)} {st : List az_V} {h : az_H} {Q : Option az_V → az_H → Prop}
/-- a cell of a constant's kind is a constant -/
theorem con_at {s : State} {H : Heap} {locs : List Loc} (hR : az_Rel G s h H locs) {a : Nat} {c : az_C} (hg : h.1 a = c) (hn : ¬ az_reg c) (h9 : c ≠ cO 999 []) : a < 16 ∧ G.2.2.2.2.2 a = c := by
  by_cases h1 : a < 16
  · exact ⟨h1, by rw [← hR.1.2.2.2.2.2.1 a h1]; exact hg⟩
  · exfalso
    by_cases h2 : a < h.2
    · exact hn (hg ▸ (rel_r hR a (by omega) h2).1)
    · exact h9 (by rw [← hg]; exact hR.1.2.2.2.2.2.2 a (by omega))
theorem str_at {s : State} {H : Heap} {locs : List Loc} (hR : az_Rel G s h H locs) {a : Nat} {fs : List az_V} (hg : h.1 a = cO 101 fs) : ∃ i, i < 4 ∧ a = i + 1 ∧ fs = [vo (i + 5), vi 0] := by
  obtain ⟨h1, h2⟩ := con_at hR hg (by rintro ⟨r, hr⟩; cases hr) (by intro e; cases e)
  have hs := hR.2.2.2.2.2.2
  obtain ⟨h3, h4⟩ := hs.2.1 a h1 ⟨fs, h2⟩
  refine ⟨a - 1, by omega, by omega, ?_⟩
  have h5 := (hs.1 (a - 1) (by omega)).2.1
  rw [show a - 1 + 1 = a by omega, h2] at h5
  cases h5
  rfl
theorem byt_at {s : State} {H : Heap} {locs : List Loc} (hR : az_Rel G s h H locs) {a : Nat} {xs : List Int} (hg : h.1 a = cA .short xs) : ∃ i, i < 4 ∧ a = i + 5 ∧ xs = skB i := by
  obtain ⟨h1, h2⟩ := con_at hR hg (by show ¬ FieldType.short ∈ arrT; decide) (by intro e; cases e)
  have hs := hR.2.2.2.2.2.2
  obtain ⟨h3, h4⟩ := hs.2.2.1 a h1 ⟨xs, h2⟩
  refine ⟨a - 5, by omega, by omega, ?_⟩
  have h5 := (hs.1 (a - 5) (by omega)).2.2.1
  rw [show a - 5 + 5 = a by omega, h2] at h5
  cases h5
  rfl
theorem ad_k {i : Nat} (hi : i < 16) : az_ad G i = G.2.2.2.2.1 i := if_pos hi
/-- a constant's facts at the entry of the method that runs -/
theorem S0_of {s : State} {H : Heap} {locs : List Loc} (hR : az_Rel G s h H locs) : ∀ q, q < G.2.2.2.1 → s.heap[q]? = H[q]? := fun q hq => (hR.2.2.2.1.2.1 q (Nat.lt_of_lt_of_le hq hR.2.1) (Nat.not_le.mpr hq)).symm
theorem str_0 {s : State} {H : Heap} {locs : List Loc} (hR : az_Rel G s h H locs) : az_str G s s.heap := str_kept hR.2.2.2.2.2.2 (S0_of hR)
theorem rz_ldcS {i : Nat} (hd : decode M.2.1 pc = .ok (.ldc (skI i), 2)) (hM : M.1.cls = RX8) (hi : i < 4) (kk : ez G M d mc ms (pc + 2) ls (vo (i + 1) :: st) h Q) : ez G M d mc ms pc ls st h Q := by
  intro p e R s m args below meth c H locs cells slots LS Z C hR hl hs hL h1 h2 hk
  have h3 := (hR.2.2.2.2.2.2.1 i hi).1
  have ho := C.2.2.2.2.1
  rw [hM] at ho
  refine va_ldcS C.1 C.2.1 ho h3 hd ?_
  have kk' := kk p e R s m args below meth c H locs cells slots LS Z C hR hl (okS_c (v := vo (i + 1)) trivial hs) hL h1 h2 hk
  rw [List.map_cons, show az_cv G (vo (i + 1)) = .ref (G.2.2.2.2.1 (i + 1)) by show Value.ref (az_ad G (i + 1)) = _; rw [ad_k (by omega)]] at kk'
  exact kk'
theorem rz_getKv {a index w : Nat} {fs : List az_V} (hd : decode M.2.1 pc = .ok (.getfield index, 3)) (hw : Cond.fieldLink M.1.cls index "java/lang/String" "value" "[B" ∈ lw_tbl) (hg : h.1 a = cO 101 fs) (hv : fs[0]? = some (vo w)) (kk : ez G M d mc ms (pc + 3) ls (vo w :: st) h Q) : ez G M d mc ms pc ls (vo a :: st) h Q := by
  intro p e R s m args below meth c H locs cells slots LS Z C hR hl hs hL h1 h2 hk
  obtain ⟨i, hi, rfl, rfl⟩ := str_at hR hg
  cases hv
  have h6 := ((str_0 hR).1 i hi).2.2.2.2.2.1
  have kk' := kk p e R s m args below meth c H locs cells slots LS Z C hR hl (okS_c (v := vo (i + 5)) trivial (okS_t hs)) hL h1 h2 hk
  rw [List.map_cons, show az_cv G (vo (i + 5)) = .ref (G.2.2.2.2.1 (i + 5)) by show Value.ref (az_ad G (i + 5)) = _; rw [ad_k (by omega)]] at kk'
  rw [List.map_cons, show az_cv G (vo (i + 1)) = .ref (G.2.2.2.2.1 (i + 1)) by show Value.ref (az_ad G (i + 1)) = _; rw [ad_k (by omega)]]
  exact vk_getf C.1 C.2.1 h6 hR.2.2.2.1 C.2.2.2.2.1 (C.2.2.2.2.2.1 _ hw rfl) (fun _ q => q) hd kk'
theorem rz_getKc {a index : Nat} {x : Int} {fs : List az_V} (hd : decode M.2.1 pc = .ok (.getfield index, 3)) (hw : Cond.fieldLink M.1.cls index "java/lang/String" "coder" "B" ∈ lw_tbl) (hg : h.1 a = cO 101 fs) (hv : fs[1]? = some (vi x)) (kk : ez G M d mc ms (pc + 3) ls (vi x :: st) h Q) : ez G M d mc ms pc ls (vo a :: st) h Q := by
  intro p e R s m args below meth c H locs cells slots LS Z C hR hl hs hL h1 h2 hk
  obtain ⟨i, hi, rfl, rfl⟩ := str_at hR hg
  cases hv
  have h6 := ((str_0 hR).1 i hi).2.2.2.2.1
  have kk' := kk p e R s m args below meth c H locs cells slots LS Z C hR hl (okS_c (v := vi 0) ⟨by decide, by decide⟩ (okS_t hs)) hL h1 h2 hk
  rw [List.map_cons, show az_cv G (vo (i + 1)) = .ref (G.2.2.2.2.1 (i + 1)) by show Value.ref (az_ad G (i + 1)) = _; rw [ad_k (by omega)]]
  exact vk_getf C.1 C.2.1 h6 hR.2.2.2.1 C.2.2.2.2.1 (C.2.2.2.2.2.1 _ hw rfl) (fun _ q => q) hd kk'
theorem skB_ok : ∀ i, i < 4 → ∀ x ∈ skB i, 0 ≤ x ∧ x < 128 := by decide
theorem skB_len : ∀ i, i < 4 → (skB i).length < 16 := by decide
theorem rz_bldK {a : Nat} {i : Int} {xs : List Int} (hd : decode M.2.1 pc = .ok (.baload, 1)) (hg : h.1 a = cA .short xs) (h0 : 0 ≤ i) (hi : i < xs.length) (kk : ez G M d mc ms (pc + 1) ls (vi (xs.getD i.toNat 0) :: st) h Q) : ez G M d mc ms pc ls (vi i :: vo a :: st) h Q := by
  intro p e R s m args below meth c H locs cells slots LS Z C hR hl hs hL h1 h2 hk
  obtain ⟨j, hj, rfl, rfl⟩ := byt_at hR hg
  have h6 := ((str_0 hR).1 j hj).2.2.2.2.2.2
  have hx := skB_ok j hj _ (gd_mem (d := 0) (show i.toNat < (skB j).length by omega))
  have kk' := kk p e R s m args below meth c H locs cells slots LS Z C hR hl (okS_c (v := vi ((skB j).getD i.toNat 0)) ⟨by omega, by omega⟩ (okS_t (okS_t hs))) hL h1 h2 hk
  rw [List.map_cons, List.map_cons, show az_cv G (vo (j + 5)) = .ref (G.2.2.2.2.1 (j + 5)) by show Value.ref (az_ad G (j + 5)) = _; rw [ad_k (by omega)]]
  exact va_tb C.1 C.2.1 h6 hR.2.2.2.1 (in_of (okS_h hs) h0 hi) (by rw [i32_nat (okS_h hs)]; rfl) hd kk'
theorem rz_alenK {a : Nat} {xs : List Int} {n : Int} (hd : decode M.2.1 pc = .ok (.arraylength, 1)) (hg : h.1 a = cA .short xs) (hn : (xs.length : Int) = n) (kk : ez G M d mc ms (pc + 1) ls (vi n :: st) h Q) : ez G M d mc ms pc ls (vo a :: st) h Q := by
  intro p e R s m args below meth c H locs cells slots LS Z C hR hl hs hL h1 h2 hk
  obtain ⟨j, hj, rfl, rfl⟩ := byt_at hR hg
  have h6 := ((str_0 hR).1 j hj).2.2.2.2.2.2
  have hx := skB_len j hj
  have kk' := kk p e R s m args below meth c H locs cells slots LS Z C hR hl (okS_c (v := vi n) ⟨by omega, by omega⟩ (okS_t hs)) hL h1 h2 hk
  rw [List.map_cons, show az_cv G (vo (j + 5)) = .ref (G.2.2.2.2.1 (j + 5)) by show Value.ref (az_ad G (j + 5)) = _; rw [ad_k (by omega)]]
  exact va_tlen C.1 C.2.1 h6 hR.2.2.2.1 (v := Int32.ofInt n) (by rw [← hn]; rfl) hd kk'
theorem rz_getC {index : Nat} (hd : decode M.2.1 pc = .ok (.getstatic index, 3)) (hw : Cond.fieldLink M.1.cls index "java/lang/String" "COMPACT_STRINGS" "Z" ∈ lw_tbl) (kk : ez G M d mc ms (pc + 3) ls (vi 1 :: st) h Q) : ez G M d mc ms pc ls st h Q := by
  intro p e R s m args below meth c H locs cells slots LS Z C hR hl hs hL h1 h2 hk
  have h6 := (str_0 hR).2.2.2.1
  have kk' := kk p e R s m args below meth c H locs cells slots LS Z C hR hl (okS_c (v := vi 1) ⟨by decide, by decide⟩ hs) hL h1 h2 hk
  exact va_gets C.1 C.2.1 h6 hR.2.2.2.1 C.2.2.2.2.1 (C.2.2.2.2.2.1 _ hw rfl) (fun _ q => q) hd kk'
theorem rz_getF {index : Nat} (hd : decode M.2.1 pc = .ok (.getstatic index, 3)) (hw : Cond.fieldLink M.1.cls index "jdk/internal/util/Preconditions" "SIOOBE_FORMATTER" "Ljava/util/function/BiFunction;" ∈ lw_tbl) (kk : ∀ r, ez G M d mc ms (pc + 3) ls (vr r :: st) h Q) : ez G M d mc ms pc ls st h Q := by
  intro p e R s m args below meth c H locs cells slots LS Z C hR hl hs hL h1 h2 hk
  rcases (str_0 hR).2.2.2.2.1 with h6 | h6
  · exact va_gets C.1 C.2.1 h6 hR.2.2.2.1 C.2.2.2.2.1 (C.2.2.2.2.2.1 _ hw rfl) (fun _ q => q) hd (kk none p e R s m args below meth c H locs cells slots LS Z C hR hl (okS_c (v := vn) trivial hs) hL h1 h2 hk)
  · have kk' := kk (some 9) p e R s m args below meth c H locs cells slots LS Z C hR hl (okS_c (v := vo 9) trivial hs) hL h1 h2 hk
    rw [List.map_cons, show az_cv G (vo 9) = .ref (G.2.2.2.2.1 9) by show Value.ref (az_ad G 9) = _; rw [ad_k (by omega)]] at kk'
    exact va_gets C.1 C.2.1 h6 hR.2.2.2.1 C.2.2.2.2.1 (C.2.2.2.2.2.1 _ hw rfl) (fun _ q => q) hd kk'
theorem rz_callK {M' : az_M} {index n mc' ms' b : Nat} {fs As stk : List az_V} {Q' : Option az_V → az_H → Prop} (hd : decode M.2.1 pc = .ok (.invokevirtual index, 3)) (hc : az_cV M.1.cls index M' n) (hn : As.length = n) (hb : h.1 b = cO 101 fs) (hcl : M'.1.cls = "java/lang/String") (hst : stk = As.reverse ++ vo b :: st) (hw : az_wd st ≤ 8)
    (hz : cz G M' d mc' ms' (vo b :: As) h Q') (kk : ∀ v h', Q' v h' → ez G M (d + 1) mc ms (pc + 3) ls (v.toList ++ st) h' Q) : ez G M (d + 1) (mc' + mc) (ms' + ms) pc ls stk h Q := by
  subst hst
  refine rz_run (M' := M') (as := vo b :: As) (Q' := Q') (fun p e R s m args below meth c H locs cells slots LS C hR hs hL h1 h2 => ?_) (fun hs => okS_t (okS_app hs).2) kk
  obtain ⟨i, hi, rfl, -⟩ := str_at hR hb
  obtain ⟨cell, q1, q2, q3, -⟩ := (hR.2.2.2.2.2.2.1 i hi).2.2.2.1
  exact va_runV (C := M'.1.cls) (b := az_ad G (i + 1)) (As := As.map (az_cv G)) (rest := st.map (az_cv G)) (Ts := lw_g) ⟨C.1, C.2.1, C.2.2.1, C.2.2.2.2.1, fun w hw => C.2.2.2.2.2.1 w (List.mem_filter.mp hw).1 (List.mem_filter.mp hw).2⟩ hz ⟨cb_of C hc.1, C.2.2.2.2.2.1 _ hc.2.1 rfl, C.2.2.2.2.2.1 _ hc.2.2 rfl⟩
    ⟨blind, ⟨cell, by rw [ad_k (by omega)]; exact q1, q2, by rw [hcl]; exact q3⟩, fun U hU hW => ⟨rfl, okS_c (v := vo (i + 1)) trivial (okS_rev (okS_app hs).1), rel_moved hR hW hU⟩⟩ rfl (by rw [List.length_map]; exact hn) hL.1 (by simp [List.map_append, List.map_reverse]; rfl) (by show 2 * 0 + _ ≤ 8; rw [wd_of]; omega) hd ⟨h1, h2⟩
end RSK
