section RZ
variable {G : az_G} {M : az_M} {d mc ms pc : Nat} {ls : List (Option az_V)} {st : List az_V} {h : az_H} {Q : Option az_V → az_H → Prop}
theorem okS_c {v : az_V} (hv : az_ok v) (hs : az_okS st) : az_okS (v :: st) := fun u hu => by
  rcases List.mem_cons.mp hu with rfl | hu
  · exact hv
  · exact hs u hu
theorem okS_h {v : az_V} (hs : az_okS (v :: st)) : az_ok v := hs v List.mem_cons_self
theorem okS_t {v : az_V} (hs : az_okS (v :: st)) : az_okS st := fun u hu => hs u (List.mem_cons_of_mem _ hu)
theorem i64_eq {x y : Int} (hx : -9223372036854775808 ≤ x ∧ x < 9223372036854775808) (hy : -9223372036854775808 ≤ y ∧ y < 9223372036854775808) : Int64.ofInt x = Int64.ofInt y ↔ x = y := by
  rw [← Int64.toInt_inj, w64_toInt, w64_toInt, w64_id hx.1 hx.2, w64_id hy.1 hy.2]
theorem i64_lt {x y : Int} (hx : -9223372036854775808 ≤ x ∧ x < 9223372036854775808) (hy : -9223372036854775808 ≤ y ∧ y < 9223372036854775808) : Int64.ofInt x < Int64.ofInt y ↔ x < y := by
  rw [Int64.lt_iff_toInt_lt, w64_toInt, w64_toInt, w64_id hx.1 hx.2, w64_id hy.1 hy.2]
theorem i2l_of {x : Int} (hx : -2147483648 ≤ x ∧ x < 2147483648) : (Int32.ofInt x).toInt64 = Int64.ofInt x := by
  rw [← Int64.toInt_inj, Int32.toInt_toInt64, w32_toInt, w64_toInt, w32_id hx.1 hx.2, w64_id (by omega) (by omega)]
theorem l2i_of (x : Int) : (Int64.ofInt x).toInt32 = Int32.ofInt (w32 x) := by
  rw [w32_of]
  exact Int64.toInt32_ofInt
theorem i2c_of (x : Int) : (Int32.ofInt x).toUInt32.toUInt16.toUInt32.toInt32 = Int32.ofInt (x % 65536) := by
  apply Int32.toBitVec_inj.mp
  apply BitVec.eq_of_toNat_eq
  simp [BitVec.toNat_setWidth, BitVec.toNat_ofInt]
  omega
theorem lcmp_rng (x y : Int) : -2147483648 ≤ lCmp x y ∧ lCmp x y < 2147483648 := by
  unfold lCmp
  split
  · decide
  · split <;> decide
theorem lcmp_of {x y : Int} (hx : -9223372036854775808 ≤ x ∧ x < 9223372036854775808) (hy : -9223372036854775808 ≤ y ∧ y < 9223372036854775808) : lg_cmp (Int64.ofInt x) (Int64.ofInt y) = Int32.ofInt (lCmp x y) := by
  unfold lg_cmp lCmp
  simp only [gt_iff_lt, i64_lt hy hx, i64_eq hx hy]
  rcases Int.lt_trichotomy x y with h1 | h1 | h1
  · rw [if_neg (by omega), if_neg (by omega), if_pos h1]; rfl
  · rw [if_neg (by omega), if_pos h1, if_neg (by omega), if_pos h1]; rfl
  · rw [if_pos h1, if_neg (by omega), if_neg (by omega)]; rfl
/-- what touches neither locals nor heap -/
theorem rz_go {pc' : Nat} {st' : List az_V} (ho : az_okL ls → az_okS st → az_okS st')
    (hw : ∀ (p : Program) (e : Env) (R : Room) (s : State) (m : MethodId) (args : Array Value) (below : List Frame) (meth : Method) (c : Code) (H : Heap) (locs : List Loc) (cells slots : Nat) (LS : Array Slot) (Z : State → Prop), az_Ctx M d p s m args meth c R → az_okL ls → az_okS st → lv_has LS M.2.2.1 (az_ll G 0 ls) →
      W p G.1 e R s m args below meth c H locs cells slots Z (F0 m pc' LS (st'.map (az_cv G))) → W p G.1 e R s m args below meth c H locs cells slots Z (F0 m pc LS (st.map (az_cv G))))
    (kk : ez G M d mc ms pc' ls st' h Q) : ez G M d mc ms pc ls st h Q := by
  intro p e R s m args below meth c H locs cells slots LS Z C hR hl hs hL h1 h2 hk
  exact hw p e R s m args below meth c H locs cells slots LS Z C hl hs hL (kk p e R s m args below meth c H locs cells slots LS Z C hR hl (ho hl hs) hL h1 h2 hk)
theorem mem_ll {q : Nat × Value} : ∀ {n : Nat} {ls : List (Option az_V)}, q ∈ az_ll G n ls ↔ ∃ (j : Nat) (v : az_V), ls[j]? = some (some v) ∧ q = (n + j, az_cv G v)
  | n, [] => by simp [az_ll]
  | n, none :: t => by
    rw [az_ll, mem_ll]
    constructor
    · rintro ⟨j, v, h1, h2⟩
      exact ⟨j + 1, v, by simpa using h1, by rw [h2]; simp; omega⟩
    · rintro ⟨j, v, h1, h2⟩
      cases j with
      | zero => simp at h1
      | succ j => exact ⟨j, v, by simpa using h1, by rw [h2]; simp; omega⟩
  | n, some u :: t => by
    rw [az_ll, List.mem_cons, mem_ll]
    constructor
    · rintro (h1 | ⟨j, v, h1, h2⟩)
      · exact ⟨0, u, by simp, by simpa using h1⟩
      · exact ⟨j + 1, v, by simpa using h1, by rw [h2]; simp; omega⟩
    · rintro ⟨j, v, h1, h2⟩
      cases j with
      | zero =>
        simp at h1
        subst h1
        exact Or.inl (by simpa using h2)
      | succ j => exact Or.inr ⟨j, v, by simpa using h1, by rw [h2]; simp; omega⟩
theorem ll_at {LS : Array Slot} {nL i : Nat} {v : az_V} (hL : lv_has LS nL (az_ll G 0 ls)) (hi : ls[i]? = some (some v)) : LS[i]? = some (.val (az_cv G v)) := hL.2.2 (i, az_cv G v) (mem_ll.mpr ⟨i, v, hi, by simp⟩)
theorem okL_at {i : Nat} {v : az_V} (hl : az_okL ls) (hi : ls[i]? = some (some v)) : az_ok v := hl v (List.mem_of_getElem? hi)
theorem cv_cat (v : az_V) : (az_cv G v).category = 2 ↔ ∃ x, v = vl x := by
  rcases v with x | x | (_ | r) <;> simp [az_cv, Value.category, va_rf]
theorem kl_at {i j : Nat} {u : az_V} (h : (az_kl ls i)[j]? = some (some u)) : ls[j]? = some (some u) ∧ ¬ (j + 1 = i ∧ ∃ x, u = vl x) := by
  unfold az_kl at h
  cases i with
  | zero => exact ⟨h, fun q => by omega⟩
  | succ i =>
    dsimp only at h
    split at h
    next x hx =>
      by_cases e : i = j
      · subst e
        have hlt : i < ls.length := (List.getElem?_eq_some_iff.mp hx).1
        simp [hlt] at h
      · rw [List.getElem?_set_ne e] at h
        exact ⟨h, fun q => e (by omega)⟩
    next hx =>
      refine ⟨h, fun ⟨q1, x, q2⟩ => ?_⟩
      have e : j = i := by omega
      subst e
      subst q2
      exact hx x h
theorem kl_len (i : Nat) : (az_kl ls i).length = ls.length := by
  unfold az_kl
  cases i with
  | zero => rfl
  | succ i => dsimp only; split <;> simp
theorem s1_has {LS : Array Slot} {nL i : Nat} {v : az_V} (hL : lv_has LS nL ((i, az_cv G v) :: (az_ll G 0 ls).filter (fun q => !(q.1 == i) && !(q.1 + 1 == i && q.2.category == 2)))) : lv_has LS nL (az_ll G 0 (az_s1 ls i v)) := by
  refine ⟨hL.1, hL.2.1, fun q hq => hL.2.2 q ?_⟩
  obtain ⟨j, u, h1, rfl⟩ := mem_ll.mp hq
  unfold az_s1 at h1
  rw [List.getElem?_set] at h1
  split at h1
  next e =>
    subst e
    split at h1
    · simp at h1
      subst h1
      simp
    · cases h1
  next e =>
    obtain ⟨g1, g2⟩ := kl_at h1
    refine List.mem_cons_of_mem _ (List.mem_filter.mpr ⟨mem_ll.mpr ⟨j, u, g1, rfl⟩, ?_⟩)
    have : ¬ (j + 1 = i ∧ (az_cv G u).category = 2) := fun ⟨q1, q2⟩ => g2 ⟨q1, (cv_cat u).mp q2⟩
    simp only [Nat.zero_add, Bool.and_eq_true, Bool.not_eq_true', beq_eq_false_iff_ne, Bool.and_eq_false_iff]
    refine ⟨fun q => e q.symm, ?_⟩
    by_cases q1 : j + 1 = i
    · exact Or.inr (by simpa using fun q2 => this ⟨q1, q2⟩)
    · exact Or.inl q1
theorem s2_has {LS : Array Slot} {nL i : Nat} {v : az_V} (hL : lv_has LS nL ((i, az_cv G v) :: (az_ll G 0 ls).filter (fun q => !(q.1 == i) && (!(q.1 == i + 1) && !(q.1 + 1 == i && q.2.category == 2))))) : lv_has LS nL (az_ll G 0 (az_s2 ls i v)) := by
  refine ⟨hL.1, hL.2.1, fun q hq => hL.2.2 q ?_⟩
  obtain ⟨j, u, h1, rfl⟩ := mem_ll.mp hq
  unfold az_s2 at h1
  rw [List.getElem?_set] at h1
  split at h1
  next e =>
    split at h1
    · simp at h1
    · cases h1
  next e0 =>
    rw [List.getElem?_set] at h1
    split at h1
    next e =>
      subst e
      split at h1
      · simp at h1
        subst h1
        simp
      · cases h1
    next e =>
      obtain ⟨g1, g2⟩ := kl_at h1
      refine List.mem_cons_of_mem _ (List.mem_filter.mpr ⟨mem_ll.mpr ⟨j, u, g1, rfl⟩, ?_⟩)
      have : ¬ (j + 1 = i ∧ (az_cv G u).category = 2) := fun ⟨q1, q2⟩ => g2 ⟨q1, (cv_cat u).mp q2⟩
      simp only [Nat.zero_add, Bool.and_eq_true, Bool.not_eq_true', beq_eq_false_iff_ne, Bool.and_eq_false_iff]
      refine ⟨fun q => e q.symm, fun q => e0 q.symm, ?_⟩
      by_cases q1 : j + 1 = i
      · exact Or.inr (by simpa using fun q2 => this ⟨q1, q2⟩)
      · exact Or.inl q1
theorem kl_mem {i : Nat} {u : az_V} (hu : some u ∈ az_kl ls i) : some u ∈ ls := by
  obtain ⟨j, hj⟩ := List.getElem?_of_mem hu
  exact List.mem_of_getElem? (kl_at hj).1
theorem s1_ok {i : Nat} {v : az_V} (hl : az_okL ls) (hv : az_ok v) : az_okL (az_s1 ls i v) := fun u hu => by
  rcases List.mem_or_eq_of_mem_set hu with hu | hu
  · exact hl u (kl_mem hu)
  · cases hu; exact hv
theorem s2_ok {i : Nat} {v : az_V} (hl : az_okL ls) (hv : az_ok v) : az_okL (az_s2 ls i v) := fun u hu => by
  rcases List.mem_or_eq_of_mem_set hu with hu | hu
  · rcases List.mem_or_eq_of_mem_set hu with hu | hu
    · exact hl u (kl_mem hu)
    · cases hu; exact hv
  · cases hu

theorem rz_iconst {n v : Int} (hd : decode M.2.1 pc = .ok (.iconst n, 1)) (hv : n = v) (hr : -2147483648 ≤ v ∧ v < 2147483648) (kk : ez G M d mc ms (pc + 1) ls (vi v :: st) h Q) : ez G M d mc ms pc ls (st) h Q := by
  refine rz_go (st' := vi v :: st) (fun hl hs => okS_c hr hs) (fun p e R s m args below meth c H locs cells slots LS Z C hl hs hL k => ?_) kk
  refine lv_iconst C.1 C.2.1 hd (show Int32.ofInt n = Int32.ofInt v by rw [hv]) ?_
  rw [List.map_cons, show az_cv G (vi v) = .int (Int32.ofInt v) from rfl] at k
  exact k
theorem rz_bipush {n v : Int} (hd : decode M.2.1 pc = .ok (.bipush n, 2)) (hv : (Int8.ofInt n).toInt32 = Int32.ofInt v) (hr : -2147483648 ≤ v ∧ v < 2147483648) (kk : ez G M d mc ms (pc + 2) ls (vi v :: st) h Q) : ez G M d mc ms pc ls (st) h Q := by
  refine rz_go (st' := vi v :: st) (fun hl hs => okS_c hr hs) (fun p e R s m args below meth c H locs cells slots LS Z C hl hs hL k => ?_) kk
  refine lv_bipush C.1 C.2.1 hd hv ?_
  rw [List.map_cons, show az_cv G (vi v) = .int (Int32.ofInt v) from rfl] at k
  exact k
theorem rz_sipush {n v : Int} (hd : decode M.2.1 pc = .ok (.sipush n, 3)) (hv : (Int16.ofInt n).toInt32 = Int32.ofInt v) (hr : -2147483648 ≤ v ∧ v < 2147483648) (kk : ez G M d mc ms (pc + 3) ls (vi v :: st) h Q) : ez G M d mc ms pc ls (st) h Q := by
  refine rz_go (st' := vi v :: st) (fun hl hs => okS_c hr hs) (fun p e R s m args below meth c H locs cells slots LS Z C hl hs hL k => ?_) kk
  refine lv_sipush C.1 C.2.1 hd hv ?_
  rw [List.map_cons, show az_cv G (vi v) = .int (Int32.ofInt v) from rfl] at k
  exact k
theorem rz_lconst {n : Fin 2} {v : Int} (hd : decode M.2.1 pc = .ok (.lconst n, 1)) (hv : Int64.ofNat (n : Nat) = Int64.ofInt v) (hr : -9223372036854775808 ≤ v ∧ v < 9223372036854775808) (kk : ez G M d mc ms (pc + 1) ls (vl v :: st) h Q) : ez G M d mc ms pc ls (st) h Q := by
  refine rz_go (st' := vl v :: st) (fun hl hs => okS_c hr hs) (fun p e R s m args below meth c H locs cells slots LS Z C hl hs hL k => ?_) kk
  refine lv_lconst C.1 C.2.1 hd hv ?_
  rw [List.map_cons, show az_cv G (vl v) = .long (Int64.ofInt v) from rfl] at k
  exact k
theorem rz_null (hd : decode M.2.1 pc = .ok (.aconst_null, 1)) (kk : ez G M d mc ms (pc + 1) ls (vn :: st) h Q) : ez G M d mc ms pc ls (st) h Q := by
  refine rz_go (st' := vn :: st) (fun hl hs => okS_c trivial hs) (fun p e R s m args below meth c H locs cells slots LS Z C hl hs hL k => ?_) kk
  refine lv_null C.1 C.2.1 hd ?_
  rw [List.map_cons, show az_cv G vn = .null from rfl] at k
  exact k
theorem rz_ldc {index : Nat} {w : Int32} {v : Int} (hd : decode M.2.1 pc = .ok (.ldc index, 2)) (hw : Cond.constant M.1.cls index w ∈ lw_tbl) (hv : w.toInt = v) (kk : ez G M d mc ms (pc + 2) ls (vi v :: st) h Q) : ez G M d mc ms pc ls (st) h Q := by
  refine rz_go (st' := vi v :: st) (fun hl hs => okS_c (hv ▸ i32_rng w) hs) (fun p e R s m args below meth c H locs cells slots LS Z C hl hs hL k => ?_) kk
  refine lv_ldc C.1 C.2.1 C.2.2.2.2.1 (C.2.2.2.2.2.1 _ hw rfl) hd ?_
  rw [List.map_cons, show az_cv G (vi v) = .int w from by subst hv; simp [az_cv]] at k
  exact k
theorem rz_ldcw {index : Nat} {w : Int32} {v : Int} (hd : decode M.2.1 pc = .ok (.ldc_w index, 3)) (hw : Cond.constant M.1.cls index w ∈ lw_tbl) (hv : w.toInt = v) (kk : ez G M d mc ms (pc + 3) ls (vi v :: st) h Q) : ez G M d mc ms pc ls (st) h Q := by
  refine rz_go (st' := vi v :: st) (fun hl hs => okS_c (hv ▸ i32_rng w) hs) (fun p e R s m args below meth c H locs cells slots LS Z C hl hs hL k => ?_) kk
  refine lv_ldcw C.1 C.2.1 C.2.2.2.2.1 (C.2.2.2.2.2.1 _ hw rfl) hd ?_
  rw [List.map_cons, show az_cv G (vi v) = .int w from by subst hv; simp [az_cv]] at k
  exact k
theorem rz_ldc2 {index : Nat} {w : Int64} {v : Int} (hd : decode M.2.1 pc = .ok (.ldc2_w index, 3)) (hw : Cond.constantLong M.1.cls index w ∈ lw_tbl) (hv : w.toInt = v) (kk : ez G M d mc ms (pc + 3) ls (vl v :: st) h Q) : ez G M d mc ms pc ls (st) h Q := by
  refine rz_go (st' := vl v :: st) (fun hl hs => okS_c (hv ▸ i64_rng w) hs) (fun p e R s m args below meth c H locs cells slots LS Z C hl hs hL k => ?_) kk
  refine lv_ldc2 C.1 C.2.1 C.2.2.2.2.1 (C.2.2.2.2.2.1 _ hw rfl) hd ?_
  rw [List.map_cons, show az_cv G (vl v) = .long w from by subst hv; simp [az_cv]] at k
  exact k
theorem rz_iload_n {k : Fin 4} {i : Nat} {x : Int} (hd : decode M.2.1 pc = .ok (.iload_n k, 1)) (hi : (k : Nat) = i) (hv : ls[i]? = some (some (vi x))) (kk : ez G M d mc ms (pc + 1) ls (vi x :: st) h Q) : ez G M d mc ms pc ls (st) h Q := by
  refine rz_go (st' := vi x :: st) (fun hl hs => okS_c (okL_at hl hv) hs) (fun p e R s m args below meth c H locs cells slots LS Z C hl hs hL k => ?_) kk
  refine lv_iload_n C.1 C.2.1 hd hi (ll_at hL hv) ?_
  exact k
theorem rz_iload {i : Nat} {x : Int} (hd : decode M.2.1 pc = .ok (.iload i, 2)) (hv : ls[i]? = some (some (vi x))) (kk : ez G M d mc ms (pc + 2) ls (vi x :: st) h Q) : ez G M d mc ms pc ls (st) h Q := by
  refine rz_go (st' := vi x :: st) (fun hl hs => okS_c (okL_at hl hv) hs) (fun p e R s m args below meth c H locs cells slots LS Z C hl hs hL k => ?_) kk
  refine lv_iload C.1 C.2.1 hd (ll_at hL hv) ?_
  exact k
theorem rz_lload_n {k : Fin 4} {i : Nat} {x : Int} (hd : decode M.2.1 pc = .ok (.lload_n k, 1)) (hi : (k : Nat) = i) (hv : ls[i]? = some (some (vl x))) (kk : ez G M d mc ms (pc + 1) ls (vl x :: st) h Q) : ez G M d mc ms pc ls (st) h Q := by
  refine rz_go (st' := vl x :: st) (fun hl hs => okS_c (okL_at hl hv) hs) (fun p e R s m args below meth c H locs cells slots LS Z C hl hs hL k => ?_) kk
  refine lv_lload_n C.1 C.2.1 hd hi (ll_at hL hv) ?_
  exact k
theorem rz_lload {i : Nat} {x : Int} (hd : decode M.2.1 pc = .ok (.lload i, 2)) (hv : ls[i]? = some (some (vl x))) (kk : ez G M d mc ms (pc + 2) ls (vl x :: st) h Q) : ez G M d mc ms pc ls (st) h Q := by
  refine rz_go (st' := vl x :: st) (fun hl hs => okS_c (okL_at hl hv) hs) (fun p e R s m args below meth c H locs cells slots LS Z C hl hs hL k => ?_) kk
  refine lv_lload C.1 C.2.1 hd (ll_at hL hv) ?_
  exact k
theorem rz_aload_n {k : Fin 4} {i : Nat} {r : Option Nat} (hd : decode M.2.1 pc = .ok (.aload_n k, 1)) (hi : (k : Nat) = i) (hv : ls[i]? = some (some (vr r))) (kk : ez G M d mc ms (pc + 1) ls (vr r :: st) h Q) : ez G M d mc ms pc ls st h Q := by
  refine rz_go (st' := vr r :: st) (fun hl hs => okS_c (v := vr r) trivial hs) (fun p e R s m args below meth c H locs cells slots LS Z C hl hs hL k => ?_) kk
  have h0 := ll_at hL hv
  cases r with
  | none => exact lv_aload_nN C.1 C.2.1 hd hi h0 k
  | some a => exact lv_aload_n C.1 C.2.1 hd hi h0 k
theorem rz_aload {i : Nat} {r : Option Nat} (hd : decode M.2.1 pc = .ok (.aload i, 2)) (hv : ls[i]? = some (some (vr r))) (kk : ez G M d mc ms (pc + 2) ls (vr r :: st) h Q) : ez G M d mc ms pc ls st h Q := by
  refine rz_go (st' := vr r :: st) (fun hl hs => okS_c (v := vr r) trivial hs) (fun p e R s m args below meth c H locs cells slots LS Z C hl hs hL k => ?_) kk
  have h0 := ll_at hL hv
  cases r with
  | none => exact lv_aloadN C.1 C.2.1 hd h0 k
  | some a => exact lv_aload C.1 C.2.1 hd h0 k
theorem rz_iadd {x y : Int} (hd : decode M.2.1 pc = .ok (.iadd, 1)) (kk : ez G M d mc ms (pc + 1) ls (vi (w32 (x + y)) :: st) h Q) : ez G M d mc ms pc ls (vi y :: vi x :: st) h Q := by
  refine rz_go (st' := vi (w32 (x + y)) :: st) (fun hl hs => okS_c ⟨w32_lo _, w32_hi _⟩ (okS_t (okS_t hs))) (fun p e R s m args below meth c H locs cells slots LS Z C hl hs hL k => ?_) kk
  refine lv_iadd C.1 C.2.1 hd ?_
  rw [List.map_cons, show az_cv G (vi (w32 (x + y))) = .int (Int32.ofInt x + Int32.ofInt y) from by simp [az_cv, w32_of]] at k
  exact k
theorem rz_isub {x y : Int} (hd : decode M.2.1 pc = .ok (.isub, 1)) (kk : ez G M d mc ms (pc + 1) ls (vi (w32 (x - y)) :: st) h Q) : ez G M d mc ms pc ls (vi y :: vi x :: st) h Q := by
  refine rz_go (st' := vi (w32 (x - y)) :: st) (fun hl hs => okS_c ⟨w32_lo _, w32_hi _⟩ (okS_t (okS_t hs))) (fun p e R s m args below meth c H locs cells slots LS Z C hl hs hL k => ?_) kk
  refine lv_isub C.1 C.2.1 hd ?_
  rw [List.map_cons, show az_cv G (vi (w32 (x - y))) = .int (Int32.ofInt x - Int32.ofInt y) from by simp [az_cv, w32_of]] at k
  exact k
theorem rz_imul {x y : Int} (hd : decode M.2.1 pc = .ok (.imul, 1)) (kk : ez G M d mc ms (pc + 1) ls (vi (w32 (x * y)) :: st) h Q) : ez G M d mc ms pc ls (vi y :: vi x :: st) h Q := by
  refine rz_go (st' := vi (w32 (x * y)) :: st) (fun hl hs => okS_c ⟨w32_lo _, w32_hi _⟩ (okS_t (okS_t hs))) (fun p e R s m args below meth c H locs cells slots LS Z C hl hs hL k => ?_) kk
  refine lv_imul C.1 C.2.1 hd ?_
  rw [List.map_cons, show az_cv G (vi (w32 (x * y))) = .int (Int32.ofInt x * Int32.ofInt y) from by simp [az_cv, w32_of]] at k
  exact k
theorem rz_iand {x y : Int} (hd : decode M.2.1 pc = .ok (.iand, 1)) (kk : ez G M d mc ms (pc + 1) ls (vi (bAnd x y) :: st) h Q) : ez G M d mc ms pc ls (vi y :: vi x :: st) h Q := by
  refine rz_go (st' := vi (bAnd x y) :: st) (fun hl hs => okS_c (i32_rng _) (okS_t (okS_t hs))) (fun p e R s m args below meth c H locs cells slots LS Z C hl hs hL k => ?_) kk
  refine lv_iand C.1 C.2.1 hd ?_
  rw [List.map_cons, show az_cv G (vi (bAnd x y)) = .int (Int32.ofInt x &&& Int32.ofInt y) from by simp [az_cv, w32_of, bAnd]] at k
  exact k
theorem rz_ior {x y : Int} (hd : decode M.2.1 pc = .ok (.ior, 1)) (kk : ez G M d mc ms (pc + 1) ls (vi (bOr x y) :: st) h Q) : ez G M d mc ms pc ls (vi y :: vi x :: st) h Q := by
  refine rz_go (st' := vi (bOr x y) :: st) (fun hl hs => okS_c (i32_rng _) (okS_t (okS_t hs))) (fun p e R s m args below meth c H locs cells slots LS Z C hl hs hL k => ?_) kk
  refine lv_ior C.1 C.2.1 hd ?_
  rw [List.map_cons, show az_cv G (vi (bOr x y)) = .int (Int32.ofInt x ||| Int32.ofInt y) from by simp [az_cv, w32_of, bOr]] at k
  exact k
theorem rz_ixor {x y : Int} (hd : decode M.2.1 pc = .ok (.ixor, 1)) (kk : ez G M d mc ms (pc + 1) ls (vi (bXor x y) :: st) h Q) : ez G M d mc ms pc ls (vi y :: vi x :: st) h Q := by
  refine rz_go (st' := vi (bXor x y) :: st) (fun hl hs => okS_c (i32_rng _) (okS_t (okS_t hs))) (fun p e R s m args below meth c H locs cells slots LS Z C hl hs hL k => ?_) kk
  refine lv_ixor C.1 C.2.1 hd ?_
  rw [List.map_cons, show az_cv G (vi (bXor x y)) = .int (Int32.ofInt x ^^^ Int32.ofInt y) from by simp [az_cv, w32_of, bXor]] at k
  exact k
theorem rz_ishl {x y : Int} (hd : decode M.2.1 pc = .ok (.ishl, 1)) (kk : ez G M d mc ms (pc + 1) ls (vi (bShl x y) :: st) h Q) : ez G M d mc ms pc ls (vi y :: vi x :: st) h Q := by
  refine rz_go (st' := vi (bShl x y) :: st) (fun hl hs => okS_c (i32_rng _) (okS_t (okS_t hs))) (fun p e R s m args below meth c H locs cells slots LS Z C hl hs hL k => ?_) kk
  refine lv_ishl C.1 C.2.1 hd ?_
  rw [List.map_cons, show az_cv G (vi (bShl x y)) = .int (Int32.ofInt x <<< (Int32.ofInt y &&& 31)) from by simp [az_cv, w32_of, bShl]] at k
  exact k
theorem rz_ishr {x y : Int} (hd : decode M.2.1 pc = .ok (.ishr, 1)) (kk : ez G M d mc ms (pc + 1) ls (vi (bShr x y) :: st) h Q) : ez G M d mc ms pc ls (vi y :: vi x :: st) h Q := by
  refine rz_go (st' := vi (bShr x y) :: st) (fun hl hs => okS_c (i32_rng _) (okS_t (okS_t hs))) (fun p e R s m args below meth c H locs cells slots LS Z C hl hs hL k => ?_) kk
  refine lv_ishr C.1 C.2.1 hd ?_
  rw [List.map_cons, show az_cv G (vi (bShr x y)) = .int (Int32.ofInt x >>> (Int32.ofInt y &&& 31)) from by simp [az_cv, w32_of, bShr]] at k
  exact k
theorem rz_iushr {x y : Int} (hd : decode M.2.1 pc = .ok (.iushr, 1)) (kk : ez G M d mc ms (pc + 1) ls (vi (bUshr x y) :: st) h Q) : ez G M d mc ms pc ls (vi y :: vi x :: st) h Q := by
  refine rz_go (st' := vi (bUshr x y) :: st) (fun hl hs => okS_c (i32_rng _) (okS_t (okS_t hs))) (fun p e R s m args below meth c H locs cells slots LS Z C hl hs hL k => ?_) kk
  refine lv_iushr C.1 C.2.1 hd rfl ?_
  rw [List.map_cons, show az_cv G (vi (bUshr x y)) = .int ((Int32.ofInt x).toUInt32 >>> ((Int32.ofInt y).toUInt32 &&& Int32.toUInt32 31)).toInt32 from by simp [az_cv, bUshr]] at k
  exact k
theorem rz_idiv {x y : Int} (hd : decode M.2.1 pc = .ok (.idiv, 1)) (hne : y ≠ 0) (kk : ez G M d mc ms (pc + 1) ls (vi (bDiv x y) :: st) h Q) : ez G M d mc ms pc ls (vi y :: vi x :: st) h Q := by
  refine rz_go (st' := vi (bDiv x y) :: st) (fun hl hs => okS_c (i32_rng _) (okS_t (okS_t hs))) (fun p e R s m args below meth c H locs cells slots LS Z C hl hs hL k => ?_) kk
  refine lv_idiv C.1 C.2.1 hd (fun q => hne ((i32_eq (okS_h hs) (by decide)).mp q)) ?_
  rw [List.map_cons, show az_cv G (vi (bDiv x y)) = .int (Int32.ofInt x / Int32.ofInt y) from by simp only [az_cv, bDiv, Int32.ofInt_toInt]] at k
  exact k
theorem rz_irem {x y : Int} (hd : decode M.2.1 pc = .ok (.irem, 1)) (hne : y ≠ 0) (kk : ez G M d mc ms (pc + 1) ls (vi (bRem x y) :: st) h Q) : ez G M d mc ms pc ls (vi y :: vi x :: st) h Q := by
  refine rz_go (st' := vi (bRem x y) :: st) (fun hl hs => okS_c (i32_rng _) (okS_t (okS_t hs))) (fun p e R s m args below meth c H locs cells slots LS Z C hl hs hL k => ?_) kk
  refine lv_irem C.1 C.2.1 hd (fun q => hne ((i32_eq (okS_h hs) (by decide)).mp q)) ?_
  rw [List.map_cons, show az_cv G (vi (bRem x y)) = .int (Int32.ofInt x - Int32.ofInt x / Int32.ofInt y * Int32.ofInt y) from by simp only [az_cv, bRem, Int32.ofInt_toInt]] at k
  exact k
theorem rz_ineg {x : Int} (hd : decode M.2.1 pc = .ok (.ineg, 1)) (kk : ez G M d mc ms (pc + 1) ls (vi (w32 (-x)) :: st) h Q) : ez G M d mc ms pc ls (vi x :: st) h Q := by
  refine rz_go (st' := vi (w32 (-x)) :: st) (fun hl hs => okS_c ⟨w32_lo _, w32_hi _⟩ (okS_t hs)) (fun p e R s m args below meth c H locs cells slots LS Z C hl hs hL k => ?_) kk
  refine lv_ineg C.1 C.2.1 hd ?_
  rw [List.map_cons, show az_cv G (vi (w32 (-x))) = .int (-Int32.ofInt x) from by simp [az_cv, w32_of]] at k
  exact k
theorem rz_ladd {x y : Int} (hd : decode M.2.1 pc = .ok (.ladd, 1)) (kk : ez G M d mc ms (pc + 1) ls (vl (w64 (x + y)) :: st) h Q) : ez G M d mc ms pc ls (vl y :: vl x :: st) h Q := by
  refine rz_go (st' := vl (w64 (x + y)) :: st) (fun hl hs => okS_c ⟨w64_lo _, w64_hi _⟩ (okS_t (okS_t hs))) (fun p e R s m args below meth c H locs cells slots LS Z C hl hs hL k => ?_) kk
  refine lv_ladd C.1 C.2.1 hd ?_
  rw [List.map_cons, show az_cv G (vl (w64 (x + y))) = .long (Int64.ofInt x + Int64.ofInt y) from by simp [az_cv, w64_of]] at k
  exact k
theorem rz_lsub {x y : Int} (hd : decode M.2.1 pc = .ok (.lsub, 1)) (kk : ez G M d mc ms (pc + 1) ls (vl (w64 (x - y)) :: st) h Q) : ez G M d mc ms pc ls (vl y :: vl x :: st) h Q := by
  refine rz_go (st' := vl (w64 (x - y)) :: st) (fun hl hs => okS_c ⟨w64_lo _, w64_hi _⟩ (okS_t (okS_t hs))) (fun p e R s m args below meth c H locs cells slots LS Z C hl hs hL k => ?_) kk
  refine lv_lsub C.1 C.2.1 hd ?_
  rw [List.map_cons, show az_cv G (vl (w64 (x - y))) = .long (Int64.ofInt x - Int64.ofInt y) from by simp [az_cv, w64_of]] at k
  exact k
theorem rz_lmul {x y : Int} (hd : decode M.2.1 pc = .ok (.lmul, 1)) (kk : ez G M d mc ms (pc + 1) ls (vl (w64 (x * y)) :: st) h Q) : ez G M d mc ms pc ls (vl y :: vl x :: st) h Q := by
  refine rz_go (st' := vl (w64 (x * y)) :: st) (fun hl hs => okS_c ⟨w64_lo _, w64_hi _⟩ (okS_t (okS_t hs))) (fun p e R s m args below meth c H locs cells slots LS Z C hl hs hL k => ?_) kk
  refine lv_lmul C.1 C.2.1 hd ?_
  rw [List.map_cons, show az_cv G (vl (w64 (x * y))) = .long (Int64.ofInt x * Int64.ofInt y) from by simp [az_cv, w64_of]] at k
  exact k
theorem rz_land {x y : Int} (hd : decode M.2.1 pc = .ok (.land, 1)) (kk : ez G M d mc ms (pc + 1) ls (vl (lAnd x y) :: st) h Q) : ez G M d mc ms pc ls (vl y :: vl x :: st) h Q := by
  refine rz_go (st' := vl (lAnd x y) :: st) (fun hl hs => okS_c (i64_rng _) (okS_t (okS_t hs))) (fun p e R s m args below meth c H locs cells slots LS Z C hl hs hL k => ?_) kk
  refine lv_land C.1 C.2.1 hd ?_
  rw [List.map_cons, show az_cv G (vl (lAnd x y)) = .long (Int64.ofInt x &&& Int64.ofInt y) from by simp [az_cv, w64_of, lAnd]] at k
  exact k
theorem rz_lor {x y : Int} (hd : decode M.2.1 pc = .ok (.lor, 1)) (kk : ez G M d mc ms (pc + 1) ls (vl (lOr x y) :: st) h Q) : ez G M d mc ms pc ls (vl y :: vl x :: st) h Q := by
  refine rz_go (st' := vl (lOr x y) :: st) (fun hl hs => okS_c (i64_rng _) (okS_t (okS_t hs))) (fun p e R s m args below meth c H locs cells slots LS Z C hl hs hL k => ?_) kk
  refine lv_lor C.1 C.2.1 hd ?_
  rw [List.map_cons, show az_cv G (vl (lOr x y)) = .long (Int64.ofInt x ||| Int64.ofInt y) from by simp [az_cv, w64_of, lOr]] at k
  exact k
theorem rz_lxor {x y : Int} (hd : decode M.2.1 pc = .ok (.lxor, 1)) (kk : ez G M d mc ms (pc + 1) ls (vl (lXor x y) :: st) h Q) : ez G M d mc ms pc ls (vl y :: vl x :: st) h Q := by
  refine rz_go (st' := vl (lXor x y) :: st) (fun hl hs => okS_c (i64_rng _) (okS_t (okS_t hs))) (fun p e R s m args below meth c H locs cells slots LS Z C hl hs hL k => ?_) kk
  refine lv_lxor C.1 C.2.1 hd ?_
  rw [List.map_cons, show az_cv G (vl (lXor x y)) = .long (Int64.ofInt x ^^^ Int64.ofInt y) from by simp [az_cv, w64_of, lXor]] at k
  exact k
theorem rz_lneg {x : Int} (hd : decode M.2.1 pc = .ok (.lneg, 1)) (kk : ez G M d mc ms (pc + 1) ls (vl (w64 (-x)) :: st) h Q) : ez G M d mc ms pc ls (vl x :: st) h Q := by
  refine rz_go (st' := vl (w64 (-x)) :: st) (fun hl hs => okS_c ⟨w64_lo _, w64_hi _⟩ (okS_t hs)) (fun p e R s m args below meth c H locs cells slots LS Z C hl hs hL k => ?_) kk
  refine lv_lneg C.1 C.2.1 hd ?_
  rw [List.map_cons, show az_cv G (vl (w64 (-x))) = .long (-Int64.ofInt x) from by simp [az_cv, w64_of]] at k
  exact k
theorem rz_ldiv {x y : Int} (hd : decode M.2.1 pc = .ok (.ldiv, 1)) (hne : y ≠ 0) (kk : ez G M d mc ms (pc + 1) ls (vl (lDiv x y) :: st) h Q) : ez G M d mc ms pc ls (vl y :: vl x :: st) h Q := by
  refine rz_go (st' := vl (lDiv x y) :: st) (fun hl hs => okS_c (i64_rng _) (okS_t (okS_t hs))) (fun p e R s m args below meth c H locs cells slots LS Z C hl hs hL k => ?_) kk
  refine lv_ldiv C.1 C.2.1 hd (fun q => hne ((i64_eq (okS_h hs) (by decide)).mp q)) ?_
  rw [List.map_cons, show az_cv G (vl (lDiv x y)) = .long (Int64.ofInt x / Int64.ofInt y) from by simp only [az_cv, lDiv, Int64.ofInt_toInt]] at k
  exact k
theorem rz_lushr {x y : Int} (hd : decode M.2.1 pc = .ok (.lushr, 1)) (kk : ez G M d mc ms (pc + 1) ls (vl (lUshr x y) :: st) h Q) : ez G M d mc ms pc ls (vi y :: vl x :: st) h Q := by
  refine rz_go (st' := vl (lUshr x y) :: st) (fun hl hs => okS_c (i64_rng _) (okS_t (okS_t hs))) (fun p e R s m args below meth c H locs cells slots LS Z C hl hs hL k => ?_) kk
  refine lv_lushr C.1 C.2.1 hd rfl ?_
  rw [List.map_cons, show az_cv G (vl (lUshr x y)) = .long ((Int64.ofInt x).toUInt64 >>> ((Int32.ofInt y).toInt64.toUInt64 &&& Int64.toUInt64 63)).toInt64 from by simp [az_cv, lUshr]] at k
  exact k
theorem rz_lshl {x y : Int} (hd : decode M.2.1 pc = .ok (.lshl, 1)) (kk : ez G M d mc ms (pc + 1) ls (vl (lShl x y) :: st) h Q) : ez G M d mc ms pc ls (vi y :: vl x :: st) h Q := by
  refine rz_go (st' := vl (lShl x y) :: st) (fun hl hs => okS_c (i64_rng _) (okS_t (okS_t hs))) (fun p e R s m args below meth c H locs cells slots LS Z C hl hs hL k => ?_) kk
  refine lv_lshl C.1 C.2.1 hd rfl ?_
  rw [List.map_cons, show az_cv G (vl (lShl x y)) = .long (Int64.ofInt x <<< ((Int32.ofInt y).toInt64 &&& 63)) from by simp [az_cv, lShl]] at k
  exact k
theorem rz_i2l {x : Int} (hd : decode M.2.1 pc = .ok (.i2l, 1)) (kk : ez G M d mc ms (pc + 1) ls (vl x :: st) h Q) : ez G M d mc ms pc ls (vi x :: st) h Q := by
  refine rz_go (st' := vl x :: st) (fun hl hs => okS_c ⟨by have := (okS_h hs).1; omega, by have := (okS_h hs).2; omega⟩ (okS_t hs)) (fun p e R s m args below meth c H locs cells slots LS Z C hl hs hL k => ?_) kk
  refine lv_i2l C.1 C.2.1 hd (v := Int64.ofInt x) (i2l_of (okS_h hs)) ?_
  rw [List.map_cons, show az_cv G (vl x) = .long (Int64.ofInt x) from rfl] at k
  exact k
theorem rz_l2i {x : Int} (hd : decode M.2.1 pc = .ok (.l2i, 1)) (kk : ez G M d mc ms (pc + 1) ls (vi (w32 x) :: st) h Q) : ez G M d mc ms pc ls (vl x :: st) h Q := by
  refine rz_go (st' := vi (w32 x) :: st) (fun hl hs => okS_c ⟨w32_lo _, w32_hi _⟩ (okS_t hs)) (fun p e R s m args below meth c H locs cells slots LS Z C hl hs hL k => ?_) kk
  refine lv_l2i C.1 C.2.1 hd (v := Int32.ofInt (w32 x)) (l2i_of x) ?_
  rw [List.map_cons, show az_cv G (vi (w32 x)) = .int (Int32.ofInt (w32 x)) from rfl] at k
  exact k
theorem rz_i2b {x : Int} (hd : decode M.2.1 pc = .ok (.i2b, 1)) (kk : ez G M d mc ms (pc + 1) ls (vi (w8 x) :: st) h Q) : ez G M d mc ms pc ls (vi x :: st) h Q := by
  refine rz_go (st' := vi (w8 x) :: st) (fun hl hs => okS_c ⟨by unfold w8; omega, by unfold w8; omega⟩ (okS_t hs)) (fun p e R s m args below meth c H locs cells slots LS Z C hl hs hL k => ?_) kk
  refine lv_i2b C.1 C.2.1 hd (v := Int32.ofInt (w8 x)) (w8_of x) ?_
  rw [List.map_cons, show az_cv G (vi (w8 x)) = .int (Int32.ofInt (w8 x)) from rfl] at k
  exact k
theorem rz_i2c {x : Int} (hd : decode M.2.1 pc = .ok (.i2c, 1)) (kk : ez G M d mc ms (pc + 1) ls (vi (x % 65536) :: st) h Q) : ez G M d mc ms pc ls (vi x :: st) h Q := by
  refine rz_go (st' := vi (x % 65536) :: st) (fun hl hs => okS_c ⟨by omega, by omega⟩ (okS_t hs)) (fun p e R s m args below meth c H locs cells slots LS Z C hl hs hL k => ?_) kk
  refine lv_i2c C.1 C.2.1 hd (v := Int32.ofInt (x % 65536)) (i2c_of x) ?_
  rw [List.map_cons, show az_cv G (vi (x % 65536)) = .int (Int32.ofInt (x % 65536)) from rfl] at k
  exact k
theorem rz_lcmp {x y : Int} (hd : decode M.2.1 pc = .ok (.lcmp, 1)) (kk : ez G M d mc ms (pc + 1) ls (vi (lCmp x y) :: st) h Q) : ez G M d mc ms pc ls (vl y :: vl x :: st) h Q := by
  refine rz_go (st' := vi (lCmp x y) :: st) (fun hl hs => okS_c (v := vi (lCmp x y)) (lcmp_rng x y) (okS_t (okS_t hs))) (fun p e R s m args below meth c H locs cells slots LS Z C hl hs hL k => ?_) kk
  refine W.lcmp C.1 C.2.1 hd ?_
  rw [List.map_cons, show az_cv G (vi (lCmp x y)) = .int (lg_cmp (Int64.ofInt x) (Int64.ofInt y)) from by rw [lcmp_of (okS_h (okS_t hs)) (okS_h hs)]; rfl] at k
  exact k
theorem cat1_of {v : az_V} (hv : ¬ ∃ x, v = vl x) : (az_cv G v).category = 1 := by
  rcases lv_cat (az_cv G v) with h | h
  · exact h
  · exact absurd ((cv_cat v).mp h) hv
theorem rz_dup {a : az_V} (hd : decode M.2.1 pc = .ok (.dup, 1)) (ha : ¬ ∃ x, a = vl x) (kk : ez G M d mc ms (pc + 1) ls (a :: a :: st) h Q) : ez G M d mc ms pc ls (a :: st) h Q := by
  refine rz_go (st' := a :: a :: st) (fun hl hs u hu => hs u ?_) (fun p e R s m args below meth c H locs cells slots LS Z C hl hs hL k => ?_) kk
  · simp only [List.mem_cons] at hu ⊢; grind
  · exact lv_dup C.1 C.2.1 hd (cat1_of ha) k
theorem rz_pop {a : az_V} (hd : decode M.2.1 pc = .ok (.pop, 1)) (ha : ¬ ∃ x, a = vl x) (kk : ez G M d mc ms (pc + 1) ls (st) h Q) : ez G M d mc ms pc ls (a :: st) h Q := by
  refine rz_go (st' := st) (fun hl hs u hu => hs u ?_) (fun p e R s m args below meth c H locs cells slots LS Z C hl hs hL k => ?_) kk
  · simp only [List.mem_cons] at hu ⊢; grind
  · exact lv_pop C.1 C.2.1 hd (cat1_of ha) k
theorem rz_dup_x1 {a b : az_V} (hd : decode M.2.1 pc = .ok (.dup_x1, 1)) (ha : ¬ ∃ x, a = vl x) (hb : ¬ ∃ x, b = vl x) (kk : ez G M d mc ms (pc + 1) ls (a :: b :: a :: st) h Q) : ez G M d mc ms pc ls (a :: b :: st) h Q := by
  refine rz_go (st' := a :: b :: a :: st) (fun hl hs u hu => hs u ?_) (fun p e R s m args below meth c H locs cells slots LS Z C hl hs hL k => ?_) kk
  · simp only [List.mem_cons] at hu ⊢; grind
  · exact lv_dup_x1 C.1 C.2.1 hd (cat1_of ha) (cat1_of hb) k
theorem rz_dup_x2 {a b f : az_V} (hd : decode M.2.1 pc = .ok (.dup_x2, 1)) (ha : ¬ ∃ x, a = vl x) (hb : ¬ ∃ x, b = vl x) (hf : ¬ ∃ x, f = vl x) (kk : ez G M d mc ms (pc + 1) ls (a :: b :: f :: a :: st) h Q) : ez G M d mc ms pc ls (a :: b :: f :: st) h Q := by
  refine rz_go (st' := a :: b :: f :: a :: st) (fun hl hs u hu => hs u ?_) (fun p e R s m args below meth c H locs cells slots LS Z C hl hs hL k => ?_) kk
  · simp only [List.mem_cons] at hu ⊢; grind
  · exact lv_dup_x2 C.1 C.2.1 hd (cat1_of ha) (cat1_of hb) (cat1_of hf) k
theorem rz_dup2_11 {a b : az_V} (hd : decode M.2.1 pc = .ok (.dup2, 1)) (ha : ¬ ∃ x, a = vl x) (hb : ¬ ∃ x, b = vl x) (kk : ez G M d mc ms (pc + 1) ls (a :: b :: a :: b :: st) h Q) : ez G M d mc ms pc ls (a :: b :: st) h Q := by
  refine rz_go (st' := a :: b :: a :: b :: st) (fun hl hs u hu => hs u ?_) (fun p e R s m args below meth c H locs cells slots LS Z C hl hs hL k => ?_) kk
  · simp only [List.mem_cons] at hu ⊢; grind
  · exact lv_dup2_11 C.1 C.2.1 hd (cat1_of ha) (cat1_of hb) k
theorem rz_dup2_2 {x : Int} (hd : decode M.2.1 pc = .ok (.dup2, 1)) (kk : ez G M d mc ms (pc + 1) ls (vl x :: vl x :: st) h Q) : ez G M d mc ms pc ls (vl x :: st) h Q := by
  refine rz_go (fun hl hs => okS_c (okS_h hs) hs) (fun p e R s m args below meth c H locs cells slots LS Z C hl hs hL k => ?_) kk
  exact lv_dup2_2 C.1 C.2.1 hd rfl k
/-- a branch -/
theorem rz_br {P : Prop} {tgt n : Nat} {st' : List az_V} (ho : az_okS st → az_okS st')
    (hw : ∀ (p : Program) (e : Env) (R : Room) (s : State) (m : MethodId) (args : Array Value) (below : List Frame) (meth : Method) (c : Code) (H : Heap) (locs : List Loc) (cells slots : Nat) (LS : Array Slot) (Z : State → Prop), az_Ctx M d p s m args meth c R → az_okS st →
      (P → W p G.1 e R s m args below meth c H locs cells slots Z (F0 m tgt LS (st'.map (az_cv G)))) → (¬ P → W p G.1 e R s m args below meth c H locs cells slots Z (F0 m n LS (st'.map (az_cv G)))) → W p G.1 e R s m args below meth c H locs cells slots Z (F0 m pc LS (st.map (az_cv G))))
    (kt : P → ez G M d mc ms tgt ls st' h Q) (kf : ¬ P → ez G M d mc ms n ls st' h Q) : ez G M d mc ms pc ls st h Q := by
  intro p e R s m args below meth c H locs cells slots LS Z C hR hl hs hL h1 h2 hk
  exact hw p e R s m args below meth c H locs cells slots LS Z C hs (fun q => kt q p e R s m args below meth c H locs cells slots LS Z C hR hl (ho hs) hL h1 h2 hk) (fun q => kf q p e R s m args below meth c H locs cells slots LS Z C hR hl (ho hs) hL h1 h2 hk)
theorem rz_goto {off : Int} {tgt : Nat} (hd : decode M.2.1 pc = .ok (.goto off, 3)) (ht : (pc : Int) + off = (tgt : Int)) (kk : ez G M d mc ms tgt ls st h Q) : ez G M d mc ms pc ls st h Q :=
  rz_go (fun _ hs => hs) (fun _ _ _ _ _ _ _ _ _ _ _ _ _ _ _ C _ _ _ k => lv_goto C.1 C.2.1 hd ht k) kk
theorem rz_if_eq {x : Int} {off : Int} {tgt : Nat} (hd : decode M.2.1 pc = .ok (.ifCond .eq off, 3)) (ht : (pc : Int) + off = (tgt : Int)) (kt : x = 0 → ez G M d mc ms tgt ls st h Q) (kf : ¬ (x = 0) → ez G M d mc ms (pc + 3) ls st h Q) : ez G M d mc ms pc ls (vi x :: st) h Q := by
  refine rz_br okS_t (fun p e R s m args below meth c H locs cells slots LS Z C hs k1 k2 => ?_) kt kf
  have h0 : (-2147483648 : Int) ≤ 0 ∧ (0 : Int) < 2147483648 := by decide
  have hx := okS_h hs
  refine lv_if_eq C.1 C.2.1 hd ht (fun q => k1 ?_) (fun q => k2 ?_)
  · simpa only [show (0 : Int32) = Int32.ofInt 0 from rfl, i32_eq hx h0] using q
  · simpa only [show (0 : Int32) = Int32.ofInt 0 from rfl, i32_eq hx h0] using q
theorem rz_icmp_eq {x y : Int} {off : Int} {tgt : Nat} (hd : decode M.2.1 pc = .ok (.if_icmp .eq off, 3)) (ht : (pc : Int) + off = (tgt : Int)) (kt : x = y → ez G M d mc ms tgt ls st h Q) (kf : ¬ (x = y) → ez G M d mc ms (pc + 3) ls st h Q) : ez G M d mc ms pc ls (vi y :: vi x :: st) h Q := by
  refine rz_br (fun hs => okS_t (okS_t hs)) (fun p e R s m args below meth c H locs cells slots LS Z C hs k1 k2 => ?_) kt kf
  have hy := okS_h hs
  have hx := okS_h (okS_t hs)
  refine lv_icmp_eq C.1 C.2.1 hd ht (fun q => k1 ?_) (fun q => k2 ?_)
  · simpa only [i32_eq hx hy] using q
  · simpa only [i32_eq hx hy] using q
theorem rz_if_ne {x : Int} {off : Int} {tgt : Nat} (hd : decode M.2.1 pc = .ok (.ifCond .ne off, 3)) (ht : (pc : Int) + off = (tgt : Int)) (kt : x ≠ 0 → ez G M d mc ms tgt ls st h Q) (kf : x = 0 → ez G M d mc ms (pc + 3) ls st h Q) : ez G M d mc ms pc ls (vi x :: st) h Q := by
  refine rz_br okS_t (fun p e R s m args below meth c H locs cells slots LS Z C hs k1 k2 => ?_) kt (fun q => kf (Classical.not_not.mp q))
  have h0 : (-2147483648 : Int) ≤ 0 ∧ (0 : Int) < 2147483648 := by decide
  have hx := okS_h hs
  refine lv_if_ne C.1 C.2.1 hd ht (fun q => k1 ?_) (fun q => k2 ?_)
  · simpa only [show (0 : Int32) = Int32.ofInt 0 from rfl, i32_eq hx h0, ne_eq, Classical.not_not] using q
  · simpa only [show (0 : Int32) = Int32.ofInt 0 from rfl, i32_eq hx h0, ne_eq, Classical.not_not] using q
theorem rz_icmp_ne {x y : Int} {off : Int} {tgt : Nat} (hd : decode M.2.1 pc = .ok (.if_icmp .ne off, 3)) (ht : (pc : Int) + off = (tgt : Int)) (kt : x ≠ y → ez G M d mc ms tgt ls st h Q) (kf : x = y → ez G M d mc ms (pc + 3) ls st h Q) : ez G M d mc ms pc ls (vi y :: vi x :: st) h Q := by
  refine rz_br (fun hs => okS_t (okS_t hs)) (fun p e R s m args below meth c H locs cells slots LS Z C hs k1 k2 => ?_) kt (fun q => kf (Classical.not_not.mp q))
  have hy := okS_h hs
  have hx := okS_h (okS_t hs)
  refine lv_icmp_ne C.1 C.2.1 hd ht (fun q => k1 ?_) (fun q => k2 ?_)
  · simpa only [i32_eq hx hy, ne_eq, Classical.not_not] using q
  · simpa only [i32_eq hx hy, ne_eq, Classical.not_not] using q
theorem rz_if_lt {x : Int} {off : Int} {tgt : Nat} (hd : decode M.2.1 pc = .ok (.ifCond .lt off, 3)) (ht : (pc : Int) + off = (tgt : Int)) (kt : x < 0 → ez G M d mc ms tgt ls st h Q) (kf : ¬ (x < 0) → ez G M d mc ms (pc + 3) ls st h Q) : ez G M d mc ms pc ls (vi x :: st) h Q := by
  refine rz_br okS_t (fun p e R s m args below meth c H locs cells slots LS Z C hs k1 k2 => ?_) kt kf
  have h0 : (-2147483648 : Int) ≤ 0 ∧ (0 : Int) < 2147483648 := by decide
  have hx := okS_h hs
  refine lv_if_lt C.1 C.2.1 hd ht (fun q => k1 ?_) (fun q => k2 ?_)
  · simpa only [show (0 : Int32) = Int32.ofInt 0 from rfl, i32_lt hx h0] using q
  · simpa only [show (0 : Int32) = Int32.ofInt 0 from rfl, i32_lt hx h0] using q
theorem rz_icmp_lt {x y : Int} {off : Int} {tgt : Nat} (hd : decode M.2.1 pc = .ok (.if_icmp .lt off, 3)) (ht : (pc : Int) + off = (tgt : Int)) (kt : x < y → ez G M d mc ms tgt ls st h Q) (kf : ¬ (x < y) → ez G M d mc ms (pc + 3) ls st h Q) : ez G M d mc ms pc ls (vi y :: vi x :: st) h Q := by
  refine rz_br (fun hs => okS_t (okS_t hs)) (fun p e R s m args below meth c H locs cells slots LS Z C hs k1 k2 => ?_) kt kf
  have hy := okS_h hs
  have hx := okS_h (okS_t hs)
  refine lv_icmp_lt C.1 C.2.1 hd ht (fun q => k1 ?_) (fun q => k2 ?_)
  · simpa only [i32_lt hx hy] using q
  · simpa only [i32_lt hx hy] using q
theorem rz_if_ge {x : Int} {off : Int} {tgt : Nat} (hd : decode M.2.1 pc = .ok (.ifCond .ge off, 3)) (ht : (pc : Int) + off = (tgt : Int)) (kt : 0 ≤ x → ez G M d mc ms tgt ls st h Q) (kf : ¬ (0 ≤ x) → ez G M d mc ms (pc + 3) ls st h Q) : ez G M d mc ms pc ls (vi x :: st) h Q := by
  refine rz_br okS_t (fun p e R s m args below meth c H locs cells slots LS Z C hs k1 k2 => ?_) kt kf
  have h0 : (-2147483648 : Int) ≤ 0 ∧ (0 : Int) < 2147483648 := by decide
  have hx := okS_h hs
  refine lv_if_ge C.1 C.2.1 hd ht (fun q => k1 ?_) (fun q => k2 ?_)
  · simpa only [show (0 : Int32) = Int32.ofInt 0 from rfl, i32_le h0 hx] using q
  · simpa only [show (0 : Int32) = Int32.ofInt 0 from rfl, i32_le h0 hx] using q
theorem rz_icmp_ge {x y : Int} {off : Int} {tgt : Nat} (hd : decode M.2.1 pc = .ok (.if_icmp .ge off, 3)) (ht : (pc : Int) + off = (tgt : Int)) (kt : y ≤ x → ez G M d mc ms tgt ls st h Q) (kf : ¬ (y ≤ x) → ez G M d mc ms (pc + 3) ls st h Q) : ez G M d mc ms pc ls (vi y :: vi x :: st) h Q := by
  refine rz_br (fun hs => okS_t (okS_t hs)) (fun p e R s m args below meth c H locs cells slots LS Z C hs k1 k2 => ?_) kt kf
  have hy := okS_h hs
  have hx := okS_h (okS_t hs)
  refine lv_icmp_ge C.1 C.2.1 hd ht (fun q => k1 ?_) (fun q => k2 ?_)
  · simpa only [i32_le hy hx] using q
  · simpa only [i32_le hy hx] using q
theorem rz_if_gt {x : Int} {off : Int} {tgt : Nat} (hd : decode M.2.1 pc = .ok (.ifCond .gt off, 3)) (ht : (pc : Int) + off = (tgt : Int)) (kt : 0 < x → ez G M d mc ms tgt ls st h Q) (kf : ¬ (0 < x) → ez G M d mc ms (pc + 3) ls st h Q) : ez G M d mc ms pc ls (vi x :: st) h Q := by
  refine rz_br okS_t (fun p e R s m args below meth c H locs cells slots LS Z C hs k1 k2 => ?_) kt kf
  have h0 : (-2147483648 : Int) ≤ 0 ∧ (0 : Int) < 2147483648 := by decide
  have hx := okS_h hs
  refine lv_if_gt C.1 C.2.1 hd ht (fun q => k1 ?_) (fun q => k2 ?_)
  · simpa only [show (0 : Int32) = Int32.ofInt 0 from rfl, i32_lt h0 hx] using q
  · simpa only [show (0 : Int32) = Int32.ofInt 0 from rfl, i32_lt h0 hx] using q
theorem rz_icmp_gt {x y : Int} {off : Int} {tgt : Nat} (hd : decode M.2.1 pc = .ok (.if_icmp .gt off, 3)) (ht : (pc : Int) + off = (tgt : Int)) (kt : y < x → ez G M d mc ms tgt ls st h Q) (kf : ¬ (y < x) → ez G M d mc ms (pc + 3) ls st h Q) : ez G M d mc ms pc ls (vi y :: vi x :: st) h Q := by
  refine rz_br (fun hs => okS_t (okS_t hs)) (fun p e R s m args below meth c H locs cells slots LS Z C hs k1 k2 => ?_) kt kf
  have hy := okS_h hs
  have hx := okS_h (okS_t hs)
  refine lv_icmp_gt C.1 C.2.1 hd ht (fun q => k1 ?_) (fun q => k2 ?_)
  · simpa only [i32_lt hy hx] using q
  · simpa only [i32_lt hy hx] using q
theorem rz_if_le {x : Int} {off : Int} {tgt : Nat} (hd : decode M.2.1 pc = .ok (.ifCond .le off, 3)) (ht : (pc : Int) + off = (tgt : Int)) (kt : x ≤ 0 → ez G M d mc ms tgt ls st h Q) (kf : ¬ (x ≤ 0) → ez G M d mc ms (pc + 3) ls st h Q) : ez G M d mc ms pc ls (vi x :: st) h Q := by
  refine rz_br okS_t (fun p e R s m args below meth c H locs cells slots LS Z C hs k1 k2 => ?_) kt kf
  have h0 : (-2147483648 : Int) ≤ 0 ∧ (0 : Int) < 2147483648 := by decide
  have hx := okS_h hs
  refine lv_if_le C.1 C.2.1 hd ht (fun q => k1 ?_) (fun q => k2 ?_)
  · simpa only [show (0 : Int32) = Int32.ofInt 0 from rfl, i32_le hx h0] using q
  · simpa only [show (0 : Int32) = Int32.ofInt 0 from rfl, i32_le hx h0] using q
theorem rz_icmp_le {x y : Int} {off : Int} {tgt : Nat} (hd : decode M.2.1 pc = .ok (.if_icmp .le off, 3)) (ht : (pc : Int) + off = (tgt : Int)) (kt : x ≤ y → ez G M d mc ms tgt ls st h Q) (kf : ¬ (x ≤ y) → ez G M d mc ms (pc + 3) ls st h Q) : ez G M d mc ms pc ls (vi y :: vi x :: st) h Q := by
  refine rz_br (fun hs => okS_t (okS_t hs)) (fun p e R s m args below meth c H locs cells slots LS Z C hs k1 k2 => ?_) kt kf
  have hy := okS_h hs
  have hx := okS_h (okS_t hs)
  refine lv_icmp_le C.1 C.2.1 hd ht (fun q => k1 ?_) (fun q => k2 ?_)
  · simpa only [i32_le hx hy] using q
  · simpa only [i32_le hx hy] using q
theorem rz_ifnull {r : Option Nat} {off : Int} {tgt : Nat} (hd : decode M.2.1 pc = .ok (.ifnull off, 3)) (ht : (pc : Int) + off = (tgt : Int)) (kt : r = none → ez G M d mc ms tgt ls st h Q) (kf : ¬ r = none → ez G M d mc ms (pc + 3) ls st h Q) : ez G M d mc ms pc ls (vr r :: st) h Q := by
  refine rz_br okS_t (fun p e R s m args below meth c H locs cells slots LS Z C hs k1 k2 => ?_) kt kf
  cases r with
  | none => exact lv_ifnullN C.1 C.2.1 hd ht (k1 rfl)
  | some a => exact lv_ifnull C.1 C.2.1 hd (k2 (by simp))
theorem rz_ifnonnull {r : Option Nat} {off : Int} {tgt : Nat} (hd : decode M.2.1 pc = .ok (.ifnonnull off, 3)) (ht : (pc : Int) + off = (tgt : Int)) (kt : ¬ r = none → ez G M d mc ms tgt ls st h Q) (kf : r = none → ez G M d mc ms (pc + 3) ls st h Q) : ez G M d mc ms pc ls (vr r :: st) h Q := by
  refine rz_br (P := ¬ r = none) okS_t (fun p e R s m args below meth c H locs cells slots LS Z C hs k1 k2 => ?_) kt (fun q => kf (Classical.not_not.mp q))
  cases r with
  | none => exact lv_ifnonnullN C.1 C.2.1 hd (k2 (by simp))
  | some a => exact lv_ifnonnull C.1 C.2.1 hd ht (k1 (by simp))
theorem rz_tsOut {dflt lo hi : Int} {offs : Array Int} {len : Nat} {x : Int} {tgt : Nat} (hd : decode M.2.1 pc = .ok (.tableswitch dflt lo hi offs, len)) (hx : x < lo ∨ hi < x) (ht : (pc : Int) + dflt = (tgt : Int)) (kk : ez G M d mc ms tgt ls st h Q) : ez G M d mc ms pc ls (vi x :: st) h Q :=
  rz_go (fun _ hs => okS_t hs) (fun _ _ _ _ _ _ _ _ _ _ _ _ _ _ _ C _ hs _ k => lv_tableOut C.1 C.2.1 hd (by rw [w32_toInt, w32_id (okS_h hs).1 (okS_h hs).2]; exact hx) ht k) kk
theorem rz_tsIn {dflt lo hi : Int} {offs : Array Int} {len : Nat} {x : Int} {off : Int} {tgt : Nat} (hd : decode M.2.1 pc = .ok (.tableswitch dflt lo hi offs, len)) (h1 : ¬ x < lo) (h2 : ¬ hi < x) (ho : offs[(x - lo).toNat]? = some off) (ht : (pc : Int) + off = (tgt : Int)) (kk : ez G M d mc ms tgt ls st h Q) : ez G M d mc ms pc ls (vi x :: st) h Q :=
  rz_go (fun _ hs => okS_t hs) (fun _ _ _ _ _ _ _ _ _ _ _ _ _ _ _ C _ hs _ k => by
    have e : (Int32.ofInt x).toInt = x := by rw [w32_toInt, w32_id (okS_h hs).1 (okS_h hs).2]
    exact lv_tableIn C.1 C.2.1 hd (by rw [e]; exact h1) (by rw [e]; exact h2) (by rw [e]; exact ho) ht k) kk
theorem rz_lookup {dflt : Int} {ps : Array (Int × Int)} {len : Nat} {x off : Int} {tgt : Nat} (hd : decode M.2.1 pc = .ok (.lookupswitch dflt ps, len)) (hp : (ps.toList.zip (ps.toList.drop 1)).all (fun (a, next) => a.1 < next.1) = true) (ho : Op.lookupswitch.offset ps.toList dflt x = off) (ht : (pc : Int) + off = (tgt : Int)) (kk : ez G M d mc ms tgt ls st h Q) : ez G M d mc ms pc ls (vi x :: st) h Q :=
  rz_go (fun _ hs => okS_t hs) (fun _ _ _ _ _ _ _ _ _ _ _ _ _ _ _ C _ hs _ k => lv_lookup C.1 C.2.1 hd hp (by rw [w32_toInt, w32_id (okS_h hs).1 (okS_h hs).2]; exact ho) ht k) kk
/-- what changes the locals alone -/
theorem rz_sto {pc' : Nat} {ls' : List (Option az_V)} {st' : List az_V} (hol : az_okL ls → az_okS st → az_okL ls') (ho : az_okS st → az_okS st')
    (hw : ∀ (p : Program) (e : Env) (R : Room) (s : State) (m : MethodId) (args : Array Value) (below : List Frame) (meth : Method) (c : Code) (H : Heap) (locs : List Loc) (cells slots : Nat) (LS : Array Slot) (Z : State → Prop), az_Ctx M d p s m args meth c R → az_okL ls → az_okS st → lv_has LS M.2.2.1 (az_ll G 0 ls) →
      (∀ LS', lv_has LS' M.2.2.1 (az_ll G 0 ls') → W p G.1 e R s m args below meth c H locs cells slots Z (F0 m pc' LS' (st'.map (az_cv G)))) → W p G.1 e R s m args below meth c H locs cells slots Z (F0 m pc LS (st.map (az_cv G))))
    (kk : ez G M d mc ms pc' ls' st' h Q) : ez G M d mc ms pc ls st h Q := by
  intro p e R s m args below meth c H locs cells slots LS Z C hR hl hs hL h1 h2 hk
  exact hw p e R s m args below meth c H locs cells slots LS Z C hl hs hL (fun LS' hL' => kk p e R s m args below meth c H locs cells slots LS' Z C hR (hol hl hs) (ho hs) hL' h1 h2 hk)
theorem rz_istore_n {k : Fin 4} {i : Nat} {x : Int} {ls' : List (Option az_V)} (hd : decode M.2.1 pc = .ok (.istore_n k, 1)) (hi : (k : Nat) = i) (hn : i < M.2.2.1) (hl : az_s1 ls i (vi x) = ls') (kk : ez G M d mc ms (pc + 1) ls' st h Q) : ez G M d mc ms pc ls (vi x :: st) h Q := by
  subst hl
  refine rz_sto (fun hl hs => s1_ok hl (okS_h hs)) okS_t (fun p e R s m args below meth c H locs cells slots LS Z C hl hs hL k => ?_) kk
  exact lv_istore_n C.1 C.2.1 hd hi hL hn rfl (fun LS' hL' => k LS' (s1_has hL'))
theorem rz_istore {i : Nat} {x : Int} {ls' : List (Option az_V)} (hd : decode M.2.1 pc = .ok (.istore i, 2)) (hn : i < M.2.2.1) (hl : az_s1 ls i (vi x) = ls') (kk : ez G M d mc ms (pc + 2) ls' st h Q) : ez G M d mc ms pc ls (vi x :: st) h Q := by
  subst hl
  refine rz_sto (fun hl hs => s1_ok hl (okS_h hs)) okS_t (fun p e R s m args below meth c H locs cells slots LS Z C hl hs hL k => ?_) kk
  exact lv_istore C.1 C.2.1 hd hL hn rfl (fun LS' hL' => k LS' (s1_has hL'))
theorem rz_lstore_n {k : Fin 4} {i : Nat} {x : Int} {ls' : List (Option az_V)} (hd : decode M.2.1 pc = .ok (.lstore_n k, 1)) (hi : (k : Nat) = i) (hn : i + 1 < M.2.2.1) (hl : az_s2 ls i (vl x) = ls') (kk : ez G M d mc ms (pc + 1) ls' st h Q) : ez G M d mc ms pc ls (vl x :: st) h Q := by
  subst hl
  refine rz_sto (fun hl hs => s2_ok hl (okS_h hs)) okS_t (fun p e R s m args below meth c H locs cells slots LS Z C hl hs hL k => ?_) kk
  exact lv_lstore_n C.1 C.2.1 hd hi hL hn rfl (fun LS' hL' => k LS' (s2_has hL'))
theorem rz_lstore {i : Nat} {x : Int} {ls' : List (Option az_V)} (hd : decode M.2.1 pc = .ok (.lstore i, 2)) (hn : i + 1 < M.2.2.1) (hl : az_s2 ls i (vl x) = ls') (kk : ez G M d mc ms (pc + 2) ls' st h Q) : ez G M d mc ms pc ls (vl x :: st) h Q := by
  subst hl
  refine rz_sto (fun hl hs => s2_ok hl (okS_h hs)) okS_t (fun p e R s m args below meth c H locs cells slots LS Z C hl hs hL k => ?_) kk
  exact lv_lstore C.1 C.2.1 hd hL hn rfl (fun LS' hL' => k LS' (s2_has hL'))
theorem rz_astore_n {k : Fin 4} {i : Nat} {r : Option Nat} {ls' : List (Option az_V)} (hd : decode M.2.1 pc = .ok (.astore_n k, 1)) (hi : (k : Nat) = i) (hn : i < M.2.2.1) (hl : az_s1 ls i (vr r) = ls') (kk : ez G M d mc ms (pc + 1) ls' st h Q) : ez G M d mc ms pc ls (vr r :: st) h Q := by
  subst hl
  refine rz_sto (fun hl hs => s1_ok hl (okS_h hs)) okS_t (fun p e R s m args below meth c H locs cells slots LS Z C hl hs hL k => ?_) kk
  cases r with
  | none => exact lv_astore_nN C.1 C.2.1 hd hi hL hn rfl (fun LS' hL' => k LS' (s1_has (v := vn) hL'))
  | some a => exact lv_astore_n C.1 C.2.1 hd hi hL hn rfl (fun LS' hL' => k LS' (s1_has (v := vo a) hL'))
theorem rz_astore {i : Nat} {r : Option Nat} {ls' : List (Option az_V)} (hd : decode M.2.1 pc = .ok (.astore i, 2)) (hn : i < M.2.2.1) (hl : az_s1 ls i (vr r) = ls') (kk : ez G M d mc ms (pc + 2) ls' st h Q) : ez G M d mc ms pc ls (vr r :: st) h Q := by
  subst hl
  refine rz_sto (fun hl hs => s1_ok hl (okS_h hs)) okS_t (fun p e R s m args below meth c H locs cells slots LS Z C hl hs hL k => ?_) kk
  cases r with
  | none => exact lv_astoreN C.1 C.2.1 hd hL hn rfl (fun LS' hL' => k LS' (s1_has (v := vn) hL'))
  | some a => exact lv_astore C.1 C.2.1 hd hL hn rfl (fun LS' hL' => k LS' (s1_has (v := vo a) hL'))
theorem rz_iinc {i : Nat} {n x : Int} {ls' : List (Option az_V)} (hd : decode M.2.1 pc = .ok (.iinc i n, 3)) (hv : ls[i]? = some (some (vi x))) (hn : i < M.2.2.1) (hl : az_s1 ls i (vi (w32 (x + n))) = ls') (kk : ez G M d mc ms (pc + 3) ls' st h Q) : ez G M d mc ms pc ls st h Q := by
  subst hl
  refine rz_sto (fun hl hs => s1_ok (v := vi (w32 (x + n))) hl ⟨w32_lo _, w32_hi _⟩) (fun hs => hs) (fun p e R s m args below meth c H locs cells slots LS Z C hl hs hL k => ?_) kk
  have hm : (i, Value.int (Int32.ofInt x)) ∈ az_ll G 0 ls := mem_ll.mpr ⟨i, vi x, hv, by simp [az_cv]⟩
  obtain ⟨j, hj⟩ := List.getElem?_of_mem hm
  refine lv_iinc C.1 C.2.1 hd hL hj (v := Int32.ofInt (w32 (x + n))) (by rw [w32_of, Int32.ofInt_add]) hn rfl (fun LS' hL' => k LS' (s1_has (v := vi (w32 (x + n))) hL'))
end RZ
