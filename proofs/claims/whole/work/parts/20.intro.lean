/-! LAYER 3: what code asks, given by facts of the heap -/
section VI
variable {h : az_H} {a ci k : Nat} {t : FieldType} {i x : Int}
theorem rdI_i {fs : List az_V} {v : Int} {K : Int → Prop} (hg : h.1 a = cO ci fs) (hv : fs[k]? = some (vi v)) (kk : K v) : rdI h a ci k K := by
  unfold rdI
  rw [hg]
  simp only [hv]
  exact ⟨trivial, kk⟩
theorem rdL_i {fs : List az_V} {v : Int} {K : Int → Prop} (hg : h.1 a = cO ci fs) (hv : fs[k]? = some (vl v)) (kk : K v) : rdL h a ci k K := by
  unfold rdL
  rw [hg]
  simp only [hv]
  exact ⟨trivial, kk⟩
theorem rdO_i {fs : List az_V} {v : Nat} {K : Nat → Prop} (hg : h.1 a = cO ci fs) (hv : fs[k]? = some (vo v)) (kk : K v) : rdO h a ci k K := by
  unfold rdO
  rw [hg]
  simp only [hv]
  exact ⟨trivial, kk⟩
theorem wrF_i {fs : List az_V} {v : az_V} {K : az_H → Prop} (hg : h.1 a = cO ci fs) (hf : az_fit t v) (kk : K (hset h a (cO ci (fs.set k v)))) : wrF h a ci k t v K := by
  unfold wrF
  rw [hg]
  exact ⟨rfl, hf, kk⟩
theorem ldI_i {xs : List Int} {K : Int → Prop} (hg : h.1 a = cA t xs) (h0 : 0 ≤ i) (h1 : i < xs.length) (kk : K (xs.getD i.toNat 0)) : ldI h a t i K := by
  unfold ldI
  rw [hg]
  exact ⟨rfl, h0, h1, kk⟩
theorem ldR_i {xs : List (Option Nat)} {K : Option Nat → Prop} (hg : h.1 a = cR t xs) (h0 : 0 ≤ i) (h1 : i < xs.length) (kk : K (xs.getD i.toNat none)) : ldR h a t i K := by
  unfold ldR
  rw [hg]
  exact ⟨rfl, h0, h1, kk⟩
theorem stI_i {xs : List Int} {K : az_H → Prop} (hg : h.1 a = cA t xs) (h0 : 0 ≤ i) (h1 : i < xs.length) (kk : K (hset h a (cA t (xs.set i.toNat x)))) : stI h a t i x K := by
  unfold stI
  rw [hg]
  exact ⟨rfl, h0, h1, kk⟩
theorem stR_i {C : String} {r : Option Nat} {xs : List (Option Nat)} {K : az_H → Prop} (hg : h.1 a = cR (.object C) xs) (hb : ∀ b, r = some b → ∃ fs, h.1 b = cO ci fs) (h0 : 0 ≤ i) (h1 : i < xs.length) (kk : K (hset h a (cR (.object C) (xs.set i.toNat r)))) : stR h a C ci i r K := by
  unfold stR
  rw [hg]
  exact ⟨rfl, hb, h0, h1, kk⟩
theorem aln_i {xs : List Int} {K : Int → Prop} (hg : h.1 a = cA t xs) (ht : t ∈ arrT) (hn : xs.length < 2147483648) (kk : K xs.length) : aln h a K := by
  unfold aln
  rw [hg]
  exact ⟨ht, by omega, kk⟩
theorem alk_i {xs : List Int} {K : Int → Prop} (hg : h.1 a = cA .short xs) (kk : K xs.length) : alk h a K := by
  unfold alk
  rw [hg]
  exact ⟨rfl, kk⟩
theorem rcv_i {fs : List az_V} {K : Prop} (hg : h.1 a = cO ci fs) (kk : K) : rcv h a ci K := by
  unfold rcv
  rw [hg]
  exact ⟨rfl, kk⟩
theorem acp_i {a0 : Nat} {sp dp n : Int} {xs ys : List Int} {K : az_H → Prop} (hg0 : h.1 a0 = cA .int xs) (hg : h.1 a = cA .int ys) (h0 : 0 ≤ sp) (h1 : 0 ≤ dp) (h2 : 0 ≤ n) (h3 : sp + n ≤ xs.length) (h4 : dp + n ≤ ys.length) (kk : K (hset h a (cA .int (cpyL xs ys sp.toNat dp.toNat n.toNat)))) : acp h a0 a sp dp n K := by
  unfold acp
  rw [hg0, hg]
  exact ⟨rfl, rfl, h0, h1, h2, h3, h4, kk⟩
theorem nwO_i {c : az_C} {K : Nat → az_H → Prop} (kk : K h.2 (hpsh h c)) : nwO h c K := kk
theorem nwG_i {K : Nat → az_H → Prop} (kk : K h.2 (hgrd h)) : nwG h K := kk
theorem nnR_i {b : Nat} {K : Nat → Prop} (kk : K b) : nnR (some b) K := kk
theorem scL_i {xs : List Int} {K : Int → Prop} (hg : h.1 0 = cA .float xs) (kk : K xs.length) : scL h K := by
  unfold scL
  rw [hg]
  exact ⟨rfl, kk⟩
end VI
theorem atI_i {r : Int} {K : Int → Prop} (kk : K r) : atI (some (vi r)) K := kk
theorem atL_i {r : Int} {K : Int → Prop} (kk : K r) : atL (some (vl r)) K := kk
theorem atR_i {r : Option Nat} {K : Option Nat → Prop} (kk : K r) : atR (some (vr r)) K := kk
theorem atV_i {K : Prop} (kk : K) : atV none K := kk
/-! what a constructor leaves -/
section INI
variable {G : az_G} {d : Nat} {Q : Option az_V → az_H → Prop} {h : az_H}
theorem sJ9_max {x y : Int} (hq : Q (some (vi (max x y))) h) : cz G mJ9_max_7cf53 d 0 0 [vi x, vi y] h Q := by
  apply vJ9_max_7cf53
  split
  · rw [show max x y = y by omega] at hq
    exact hq
  · rw [show max x y = x by omega] at hq
    exact hq
theorem sJ9_min {x y : Int} (hq : Q (some (vi (min x y))) h) : cz G mJ9_min_7cf53 d 0 0 [vi x, vi y] h Q := by
  apply vJ9_min_7cf53
  split
  · rw [show min x y = y by omega] at hq
    exact hq
  · rw [show min x y = x by omega] at hq
    exact hq
theorem sX0_init {a : Nat} {x1 x2 x3 x4 : Int} (hg : h.1 a = cO 0 [vi 0, vi 0, vi 0, vi 0]) (hq : Q none (hset h a (cO 0 [vi x1, vi x2, vi x3, vi x4]))) : cz G mX0_init (d + 1) 0 0 [vo a, vi x1, vi x2, vi x3, vi x4] h Q := by
  apply vX0_init
  refine wrF_i hg trivial ?_
  refine wrF_i (hset_at _ _ _) trivial ?_
  rw [hset_set]
  refine wrF_i (hset_at _ _ _) trivial ?_
  rw [hset_set]
  refine wrF_i (hset_at _ _ _) trivial ?_
  rw [hset_set]
  exact hq
theorem psh_at (c : az_C) : (hpsh h c).1 h.2 = c := if_pos rfl
theorem psh_ne {c : az_C} {j : Nat} (e : j ≠ h.2) : (hpsh h c).1 j = h.1 j := if_neg e
theorem psh_set {c c' : az_C} {a : Nat} (e : a ≠ h.2) : hpsh (hset h a c) c' = hset (hpsh h c') a c := by
  refine Prod.ext (funext fun j => ?_) rfl
  show (if j = h.2 then c' else if j = a then c else h.1 j) = (if j = a then c else if j = h.2 then c' else h.1 j)
  by_cases e1 : j = a
  · subst e1
    rw [if_neg e, if_pos rfl, if_pos rfl]
  · rw [if_neg e1, if_neg e1]
end INI
