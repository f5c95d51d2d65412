/-! THE HEAP AS FUNCTIONS: s a k is int k of the cell a (a field or an element), r a k the reference k of the array a -/
def ud {α : Type} (g : Int → α) (k : Int) (v : α) : Int → α := fun j => if j = k then v else g j
theorem ud_at {α : Type} {g : Int → α} {k : Int} {v : α} : ud g k v k = v := if_pos rfl
theorem ud_ne {α : Type} {g : Int → α} {k j : Int} {v : α} (e : j ≠ k) : ud g k v j = g j := if_neg e
theorem ud_ap {α : Type} {g : Int → α} {k j : Int} {v : α} : ud g k v j = if j = k then v else g j := rfl
theorem up_ap {α : Type} {f : Nat → α} {k j : Nat} {v : α} : up f k v j = if j = k then v else f j := rfl
theorem up_id {α : Type} {f : Nat → α} {k : Nat} {v w : α} : up (up f k v) k w = up f k w := up_up f k v w
def n0 : Nat → Nat := fun i => match i with
  | 18 => 208 | 20 => 208 | 21 => 208 | 24 => 6 | 25 => 4 | 29 => 19 | 31 => 19 | 32 => 19 | 33 => 19 | 34 => 32 | 37 => 7600 | 38 => 400 | 39 => 400 | 40 => 400 | 41 => 1024 | 43 => 12 | 46 => 96 | 47 => 8 | 49 => 240 | 50 => 20 | 52 => 12 | 53 => 19 | 55 => 208 | 56 => 4500 | 57 => 4500 | 58 => 4500 | 59 => 15 | 60 => 6 | 61 => 6 | 62 => 300 | 63 => 6 | 64 => 19 | 65 => 19 | 66 => 4 | 67 => 4 | 68 => 4 | 69 => 144 | 70 => 300 | 71 => 3 | 72 => 3 | 73 => 3 | 74 => 3 | 75 => 57 | 76 => 30 | 77 => 30 | 78 => 30 | 79 => 30 | 80 => 20 | 81 => 240 | 82 => 12 | 83 => 8 | 84 => 96 | 85 => 7619 | 86 => 401 | 87 => 401 | 88 => 401 | _ => 0
def m0 : Nat → Nat := fun i => match i with
  | 23 => 6 | 26 => 4 | 42 => 30 | 51 => 8 | _ => 0
def rgm {α : Type} (n : Nat) (g : Int → α) : List α := (List.range n).map (fun k : Nat => g (k : Int))
theorem rgm_len {α : Type} {n : Nat} {g : Int → α} : (rgm n g).length = n := by
  unfold rgm
  rw [List.length_map, List.length_range]
theorem rgm_get {α : Type} {n : Nat} {g : Int → α} {k : Nat} (hk : k < n) : (rgm n g)[k]? = some (g k) := by
  unfold rgm
  rw [List.getElem?_map, List.getElem?_range hk]
  rfl
theorem rgm_gd {α : Type} {n : Nat} {g : Int → α} {i : Int} {d : α} (h0 : 0 ≤ i) (h1 : i < n) : (rgm n g).getD i.toNat d = g i := by
  rw [List.getD_eq_getElem?_getD, rgm_get (by omega), Int.toNat_of_nonneg h0]
  rfl
theorem rgm_ext {α : Type} {n : Nat} {g g' : Int → α} (e : ∀ k : Int, 0 ≤ k → k < n → g k = g' k) : rgm n g = rgm n g' := by
  unfold rgm
  refine List.map_congr_left (fun k hk => ?_)
  have := List.mem_range.1 hk
  exact e k (by omega) (by omega)
theorem rgm_set {α : Type} {n : Nat} {g : Int → α} {i : Int} {x : α} (h0 : 0 ≤ i) : (rgm n g).set i.toNat x = rgm n (ud g i x) := by
  refine List.ext_getElem? (fun k => ?_)
  rw [List.getElem?_set, rgm_len]
  by_cases hk : k < n
  · rw [rgm_get hk, rgm_get hk]
    by_cases e : i.toNat = k
    · rw [if_pos e, if_pos (by omega)]
      subst e
      rw [Int.toNat_of_nonneg h0, ud_at]
    · rw [if_neg e, ud_ne (by omega)]
  · have h1 : (rgm n g)[k]? = none := List.getElem?_eq_none (by rw [rgm_len]; omega)
    have h2 : (rgm n (ud g i x))[k]? = none := List.getElem?_eq_none (by rw [rgm_len]; omega)
    rw [h1, h2]
    by_cases e : i.toNat = k
    · rw [if_pos e, if_neg (by omega)]
    · rw [if_neg e]
/-- a stretch copied -/
def cps (g g' : Int → Int) (sp dp n : Int) : Int → Int := fun k => if dp ≤ k ∧ k < dp + n then g (sp + (k - dp)) else g' k
theorem rgm_cpy {n n' : Nat} {g g' : Int → Int} {sp dp m : Int} (h0 : 0 ≤ sp) (h1 : 0 ≤ dp) (h2 : 0 ≤ m) (h3 : sp + m ≤ n) (h4 : dp + m ≤ n') : cpyL (rgm n g) (rgm n' g') sp.toNat dp.toNat m.toNat = rgm n' (cps g g' sp dp m) := by
  have hl : (cpyL (rgm n g) (rgm n' g') sp.toNat dp.toNat m.toNat).length = n' := by
    unfold cpyL
    simp only [List.length_append, List.length_take, List.length_drop, rgm_len]
    omega
  refine List.ext_getElem? (fun k => ?_)
  by_cases hk : k < n'
  · rw [rgm_get hk]
    unfold cpyL cps
    by_cases c1 : k < dp.toNat
    · rw [List.getElem?_append_left (by rw [List.length_take, rgm_len]; omega), List.getElem?_take, if_pos c1, rgm_get hk, if_neg (by omega)]
    · rw [List.getElem?_append_right (by rw [List.length_take, rgm_len]; omega), List.length_take, rgm_len, Nat.min_eq_left (by omega)]
      by_cases c2 : k < dp.toNat + m.toNat
      · rw [List.getElem?_append_left (by rw [List.length_take, List.length_drop, rgm_len]; omega), List.getElem?_take, if_pos (by omega), List.getElem?_drop, rgm_get (by omega), if_pos (by omega)]
        congr 2
        omega
      · rw [List.getElem?_append_right (by rw [List.length_take, List.length_drop, rgm_len]; omega), List.length_take, List.length_drop, rgm_len, Nat.min_eq_left (by omega), List.getElem?_drop, rgm_get (by omega), if_neg (by omega)]
        congr 2
        omega
  · rw [List.getElem?_eq_none (by omega), List.getElem?_eq_none (by rw [rgm_len]; omega)]
def PS (h : az_H) (s : Nat → Int → Int) (r : Nat → Int → Option Nat) : az_H := PH h (fun a k => s a k) (fun a => rgm (n0 a) (s a)) (fun a => rgm (m0 a) (r a))
/-- an int of the cell a is written -/
def uf (s : Nat → Int → Int) (a : Nat) (k v : Int) : Nat → Int → Int := up s a (ud (s a) k v)
def uq (r : Nat → Int → Option Nat) (a : Nat) (k : Int) (v : Option Nat) : Nat → Int → Option Nat := up r a (ud (r a) k v)
section LS
variable {h : az_H} {s : Nat → Int → Int} {r : Nat → Int → Option Nat} {a ci k b : Nat} {t : FieldType} {i x v : Int}
theorem PS_in (h1 : 16 ≤ a ∧ a < 89) : (PS h s r).1 a = pcx a (fun k => s a k) (rgm (n0 a) (s a)) (rgm (m0 a) (r a)) := PH_in h1
theorem PS_out (h1 : 89 ≤ a) : (PS h s r).1 a = h.1 a := PH_out h1
theorem PS_low (h1 : a < 16) : (PS h s r).1 a = h.1 a := PH_low h1
theorem PS_sz : (PS h s r).2 = h.2 := rfl
theorem PS_psh {c : az_C} (h1 : 89 ≤ h.2) : hpsh (PS h s r) c = PS (hpsh h c) s r := PH_psh h1
theorem PS_dyn {c : az_C} (h1 : 89 ≤ a) : hset (PS h s r) a c = PS (hset h a c) s r := PH_dyn h1
theorem PS_set {s' : Nat → Int → Int} {r' : Nat → Int → Option Nat} {c : az_C} (h1 : 16 ≤ a ∧ a < 89) (hc : c = pcx a (fun k => s' a k) (rgm (n0 a) (s' a)) (rgm (m0 a) (r' a))) (ho : ∀ j, j ≠ a → s j = s' j ∧ r j = r' j) : hset (PS h s r) a c = PS h s' r' := by
  refine PH_set h1 hc (fun j hj => ?_)
  obtain ⟨e1, e2⟩ := ho j hj
  exact ⟨by simp only [e1], by simp only [e1], by simp only [e2]⟩
theorem rdI_q {fs : List az_V} {K : Int → Prop} (hg : h.1 a = cO ci fs) (hv : fs[k]? = some (vi v)) : rdI h a ci k K = K v := by
  unfold rdI
  rw [hg]
  simp only [hv, true_and]
theorem rdO_q {fs : List az_V} {K : Nat → Prop} (hg : h.1 a = cO ci fs) (hv : fs[k]? = some (vo b)) : rdO h a ci k K = K b := by
  unfold rdO
  rw [hg]
  simp only [hv, true_and]
theorem rcv_q {fs : List az_V} {K : Prop} (hg : h.1 a = cO ci fs) : rcv h a ci K = K := by
  unfold rcv
  rw [hg]
  simp only [true_and]
theorem wrF_q {fs : List az_V} {s' : Nat → Int → Int} {K : az_H → Prop} (hg : (PS h s r).1 a = cO ci fs) (hf : az_fit t (vi v) ↔ True) (he : hset (PS h s r) a (cO ci (fs.set k (vi v))) = PS h s' r) : wrF (PS h s r) a ci k t (vi v) K = K (PS h s' r) := by
  unfold wrF
  rw [hg]
  simp only [he, true_and, hf]
theorem ldI_q {K : Int → Prop} (h1 : 16 ≤ a ∧ a < 89) (e : ∀ g xs rs, pcx a g xs rs = cA t xs) (hn : n0 a = b) : ldI (PS h s r) a t i K = (0 ≤ i ∧ i < b ∧ K (s a i)) := by
  subst hn
  unfold ldI
  rw [PS_in h1, e]
  simp only [true_and, rgm_len]
  refine propext ⟨fun ⟨x1, x2, x3⟩ => ⟨x1, x2, ?_⟩, fun ⟨x1, x2, x3⟩ => ⟨x1, x2, ?_⟩⟩
  · rw [rgm_gd x1 x2] at x3; exact x3
  · rw [rgm_gd x1 x2]; exact x3
theorem stI_q {K : az_H → Prop} (h1 : 16 ≤ a ∧ a < 89) (e : ∀ g xs rs, pcx a g xs rs = cA t xs) (hn : n0 a = b) : stI (PS h s r) a t i x K = (0 ≤ i ∧ i < b ∧ K (PS h (uf s a i x) r)) := by
  subst hn
  unfold stI
  rw [PS_in h1, e]
  simp only [true_and, rgm_len]
  refine propext ⟨fun ⟨x1, x2, x3⟩ => ⟨x1, x2, ?_⟩, fun ⟨x1, x2, x3⟩ => ⟨x1, x2, ?_⟩⟩
  · rw [rgm_set x1, PS_set (s' := uf s a i x) (r' := r) h1 (by rw [e, uf, up_at]) (fun j hj => ⟨(up_ne hj).symm, rfl⟩)] at x3; exact x3
  · rw [rgm_set x1, PS_set (s' := uf s a i x) (r' := r) h1 (by rw [e, uf, up_at]) (fun j hj => ⟨(up_ne hj).symm, rfl⟩)]; exact x3
theorem aln_q {K : Int → Prop} (h1 : 16 ≤ a ∧ a < 89) (e : ∀ g xs rs, pcx a g xs rs = cA t xs) (ht : t ∈ arrT) (hn : n0 a = b) (hb : (b : Int) < 2147483648) : aln (PS h s r) a K = K b := by
  subst hn
  unfold aln
  rw [PS_in h1, e]
  simp only [rgm_len, ht, hb, true_and]
theorem ldR_q {K : Option Nat → Prop} (h1 : 16 ≤ a ∧ a < 89) (e : ∀ g xs rs, pcx a g xs rs = cR t rs) (hn : m0 a = b) : ldR (PS h s r) a t i K = (0 ≤ i ∧ i < b ∧ K (r a i)) := by
  subst hn
  unfold ldR
  rw [PS_in h1, e]
  simp only [true_and, rgm_len]
  refine propext ⟨fun ⟨x1, x2, x3⟩ => ⟨x1, x2, ?_⟩, fun ⟨x1, x2, x3⟩ => ⟨x1, x2, ?_⟩⟩
  · rw [rgm_gd x1 x2] at x3; exact x3
  · rw [rgm_gd x1 x2]; exact x3
theorem stR_q {C : String} {q : Option Nat} {K : az_H → Prop} (h1 : 16 ≤ a ∧ a < 89) (e : ∀ g xs rs, pcx a g xs rs = cR (.object C) rs) (hn : m0 a = b) : stR (PS h s r) a C ci i q K = ((∀ c, q = some c → ∃ fs, (PS h s r).1 c = cO ci fs) ∧ 0 ≤ i ∧ i < b ∧ K (PS h s (uq r a i q))) := by
  subst hn
  unfold stR
  rw [PS_in h1, e]
  simp only [true_and, rgm_len]
  refine propext ⟨fun ⟨x0, x1, x2, x3⟩ => ⟨x0, x1, x2, ?_⟩, fun ⟨x0, x1, x2, x3⟩ => ⟨x0, x1, x2, ?_⟩⟩
  · rw [rgm_set x1, PS_set (s' := s) (r' := uq r a i q) h1 (by rw [e, uq, up_at]) (fun j hj => ⟨rfl, (up_ne hj).symm⟩)] at x3; exact x3
  · rw [rgm_set x1, PS_set (s' := s) (r' := uq r a i q) h1 (by rw [e, uq, up_at]) (fun j hj => ⟨rfl, (up_ne hj).symm⟩)]; exact x3
theorem acp_q {a0 b0 : Nat} {sp dp n : Int} {K : az_H → Prop} (h0 : 16 ≤ a0 ∧ a0 < 89) (h1 : 16 ≤ a ∧ a < 89) (e0 : ∀ g xs rs, pcx a0 g xs rs = cA .int xs) (e : ∀ g xs rs, pcx a g xs rs = cA .int xs) (hn0 : n0 a0 = b0) (hn : n0 a = b) : acp (PS h s r) a0 a sp dp n K = (0 ≤ sp ∧ 0 ≤ dp ∧ 0 ≤ n ∧ sp + n ≤ b0 ∧ dp + n ≤ b ∧ K (PS h (up s a (cps (s a0) (s a) sp dp n)) r)) := by
  subst hn hn0
  unfold acp
  rw [PS_in h1, PS_in h0, e, e0]
  simp only [true_and, rgm_len]
  refine propext ⟨fun ⟨x1, x2, x3, x4, x5, x6⟩ => ⟨x1, x2, x3, x4, x5, ?_⟩, fun ⟨x1, x2, x3, x4, x5, x6⟩ => ⟨x1, x2, x3, x4, x5, ?_⟩⟩
  · rw [rgm_cpy x1 x2 x3 x4 x5, PS_set (s' := up s a (cps (s a0) (s a) sp dp n)) (r' := r) h1 (by rw [e, up_at]) (fun j hj => ⟨(up_ne hj).symm, rfl⟩)] at x6; exact x6
  · rw [rgm_cpy x1 x2 x3 x4 x5, PS_set (s' := up s a (cps (s a0) (s a) sp dp n)) (r' := r) h1 (by rw [e, up_at]) (fun j hj => ⟨(up_ne hj).symm, rfl⟩)]; exact x6
theorem nwO_q {c : az_C} {K : Nat → az_H → Prop} (h1 : 89 ≤ h.2) : nwO (PS h s r) c K = K h.2 (PS (hpsh h c) s r) := by
  unfold nwO
  rw [PS_psh h1]
  rfl
theorem nnR_q {K : Nat → Prop} : nnR (some b) K = K b := rfl
theorem atI_q {K : Int → Prop} : atI (some (vi v)) K = K v := rfl
theorem atL_q {K : Int → Prop} : atL (some (vl v)) K = K v := rfl
theorem atR_q {q : Option Nat} {K : Option Nat → Prop} : atR (some (vr q)) K = K q := rfl
theorem atO_q {K : Option Nat → Prop} : atR (some (vo b)) K = K (some b) := rfl
theorem atV_q {K : Prop} : atV none K = K := rfl
theorem fit_i : az_fit .int (vi v) ↔ True := ⟨fun _ => trivial, fun _ => trivial⟩
theorem rc_16 {K : Prop} : rcv (PS h s r) 16 10 K = K := rcv_q (PS_in ⟨by decide, by decide⟩)
theorem ro_16_0 {K : Nat → Prop} : rdO (PS h s r) 16 10 0 K = K 17 := rdO_q (PS_in ⟨by decide, by decide⟩) rfl
theorem ro_16_1 {K : Nat → Prop} : rdO (PS h s r) 16 10 1 K = K 19 := rdO_q (PS_in ⟨by decide, by decide⟩) rfl
theorem ro_16_2 {K : Nat → Prop} : rdO (PS h s r) 16 10 2 K = K 22 := rdO_q (PS_in ⟨by decide, by decide⟩) rfl
theorem ro_16_3 {K : Nat → Prop} : rdO (PS h s r) 16 10 3 K = K 27 := rdO_q (PS_in ⟨by decide, by decide⟩) rfl
theorem ro_16_4 {K : Nat → Prop} : rdO (PS h s r) 16 10 4 K = K 35 := rdO_q (PS_in ⟨by decide, by decide⟩) rfl
theorem ro_16_5 {K : Nat → Prop} : rdO (PS h s r) 16 10 5 K = K 44 := rdO_q (PS_in ⟨by decide, by decide⟩) rfl
theorem ro_16_6 {K : Nat → Prop} : rdO (PS h s r) 16 10 6 K = K 48 := rdO_q (PS_in ⟨by decide, by decide⟩) rfl
theorem ro_16_7 {K : Nat → Prop} : rdO (PS h s r) 16 10 7 K = K 51 := rdO_q (PS_in ⟨by decide, by decide⟩) rfl
theorem ro_16_8 {K : Nat → Prop} : rdO (PS h s r) 16 10 8 K = K 52 := rdO_q (PS_in ⟨by decide, by decide⟩) rfl
theorem ro_16_9 {K : Nat → Prop} : rdO (PS h s r) 16 10 9 K = K 53 := rdO_q (PS_in ⟨by decide, by decide⟩) rfl
theorem ri_16_10 {K : Int → Prop} : rdI (PS h s r) 16 10 10 K = K (s 16 10) := rdI_q (PS_in ⟨by decide, by decide⟩) rfl
theorem wi_16_10 {K : az_H → Prop} : wrF (PS h s r) 16 10 10 .int (vi v) K = K (PS h (uf s 16 10 v) r) := wrF_q (PS_in ⟨by decide, by decide⟩) fit_i (PS_set (s' := uf s 16 10 v) ⟨by decide, by decide⟩ (by simp only [pcx, List.set, uf, up_at, ud_ap, List.set_cons_succ, List.set_cons_zero]; rfl) (fun j hj => ⟨(up_ne hj).symm, rfl⟩))
theorem ri_16_11 {K : Int → Prop} : rdI (PS h s r) 16 10 11 K = K (s 16 11) := rdI_q (PS_in ⟨by decide, by decide⟩) rfl
theorem wi_16_11 {K : az_H → Prop} : wrF (PS h s r) 16 10 11 .int (vi v) K = K (PS h (uf s 16 11 v) r) := wrF_q (PS_in ⟨by decide, by decide⟩) fit_i (PS_set (s' := uf s 16 11 v) ⟨by decide, by decide⟩ (by simp only [pcx, List.set, uf, up_at, ud_ap, List.set_cons_succ, List.set_cons_zero]; rfl) (fun j hj => ⟨(up_ne hj).symm, rfl⟩))
theorem rc_17 {K : Prop} : rcv (PS h s r) 17 8 K = K := rcv_q (PS_in ⟨by decide, by decide⟩)
theorem ro_17_0 {K : Nat → Prop} : rdO (PS h s r) 17 8 0 K = K 18 := rdO_q (PS_in ⟨by decide, by decide⟩) rfl
theorem ri_17_1 {K : Int → Prop} : rdI (PS h s r) 17 8 1 K = K (s 17 1) := rdI_q (PS_in ⟨by decide, by decide⟩) rfl
theorem wi_17_1 {K : az_H → Prop} : wrF (PS h s r) 17 8 1 .int (vi v) K = K (PS h (uf s 17 1 v) r) := wrF_q (PS_in ⟨by decide, by decide⟩) fit_i (PS_set (s' := uf s 17 1 v) ⟨by decide, by decide⟩ (by simp only [pcx, List.set, uf, up_at, ud_ap, List.set_cons_succ, List.set_cons_zero]; rfl) (fun j hj => ⟨(up_ne hj).symm, rfl⟩))
theorem ri_17_2 {K : Int → Prop} : rdI (PS h s r) 17 8 2 K = K (s 17 2) := rdI_q (PS_in ⟨by decide, by decide⟩) rfl
theorem wi_17_2 {K : az_H → Prop} : wrF (PS h s r) 17 8 2 .int (vi v) K = K (PS h (uf s 17 2 v) r) := wrF_q (PS_in ⟨by decide, by decide⟩) fit_i (PS_set (s' := uf s 17 2 v) ⟨by decide, by decide⟩ (by simp only [pcx, List.set, uf, up_at, ud_ap, List.set_cons_succ, List.set_cons_zero]; rfl) (fun j hj => ⟨(up_ne hj).symm, rfl⟩))
theorem ri_17_3 {K : Int → Prop} : rdI (PS h s r) 17 8 3 K = K (s 17 3) := rdI_q (PS_in ⟨by decide, by decide⟩) rfl
theorem wi_17_3 {K : az_H → Prop} : wrF (PS h s r) 17 8 3 .int (vi v) K = K (PS h (uf s 17 3 v) r) := wrF_q (PS_in ⟨by decide, by decide⟩) fit_i (PS_set (s' := uf s 17 3 v) ⟨by decide, by decide⟩ (by simp only [pcx, List.set, uf, up_at, ud_ap, List.set_cons_succ, List.set_cons_zero]; rfl) (fun j hj => ⟨(up_ne hj).symm, rfl⟩))
theorem ri_17_4 {K : Int → Prop} : rdI (PS h s r) 17 8 4 K = K (s 17 4) := rdI_q (PS_in ⟨by decide, by decide⟩) rfl
theorem wi_17_4 {K : az_H → Prop} : wrF (PS h s r) 17 8 4 .int (vi v) K = K (PS h (uf s 17 4 v) r) := wrF_q (PS_in ⟨by decide, by decide⟩) fit_i (PS_set (s' := uf s 17 4 v) ⟨by decide, by decide⟩ (by simp only [pcx, List.set, uf, up_at, ud_ap, List.set_cons_succ, List.set_cons_zero]; rfl) (fun j hj => ⟨(up_ne hj).symm, rfl⟩))
theorem ri_17_5 {K : Int → Prop} : rdI (PS h s r) 17 8 5 K = K (s 17 5) := rdI_q (PS_in ⟨by decide, by decide⟩) rfl
theorem wi_17_5 {K : az_H → Prop} : wrF (PS h s r) 17 8 5 .int (vi v) K = K (PS h (uf s 17 5 v) r) := wrF_q (PS_in ⟨by decide, by decide⟩) fit_i (PS_set (s' := uf s 17 5 v) ⟨by decide, by decide⟩ (by simp only [pcx, List.set, uf, up_at, ud_ap, List.set_cons_succ, List.set_cons_zero]; rfl) (fun j hj => ⟨(up_ne hj).symm, rfl⟩))
theorem rc_19 {K : Prop} : rcv (PS h s r) 19 5 K = K := rcv_q (PS_in ⟨by decide, by decide⟩)
theorem ro_19_0 {K : Nat → Prop} : rdO (PS h s r) 19 5 0 K = K 17 := rdO_q (PS_in ⟨by decide, by decide⟩) rfl
theorem ro_19_1 {K : Nat → Prop} : rdO (PS h s r) 19 5 1 K = K 20 := rdO_q (PS_in ⟨by decide, by decide⟩) rfl
theorem ro_19_2 {K : Nat → Prop} : rdO (PS h s r) 19 5 2 K = K 21 := rdO_q (PS_in ⟨by decide, by decide⟩) rfl
theorem ri_19_3 {K : Int → Prop} : rdI (PS h s r) 19 5 3 K = K (s 19 3) := rdI_q (PS_in ⟨by decide, by decide⟩) rfl
theorem wi_19_3 {K : az_H → Prop} : wrF (PS h s r) 19 5 3 .int (vi v) K = K (PS h (uf s 19 3 v) r) := wrF_q (PS_in ⟨by decide, by decide⟩) fit_i (PS_set (s' := uf s 19 3 v) ⟨by decide, by decide⟩ (by simp only [pcx, List.set, uf, up_at, ud_ap, List.set_cons_succ, List.set_cons_zero]; rfl) (fun j hj => ⟨(up_ne hj).symm, rfl⟩))
theorem ri_19_4 {K : Int → Prop} : rdI (PS h s r) 19 5 4 K = K (s 19 4) := rdI_q (PS_in ⟨by decide, by decide⟩) rfl
theorem wi_19_4 {K : az_H → Prop} : wrF (PS h s r) 19 5 4 .int (vi v) K = K (PS h (uf s 19 4 v) r) := wrF_q (PS_in ⟨by decide, by decide⟩) fit_i (PS_set (s' := uf s 19 4 v) ⟨by decide, by decide⟩ (by simp only [pcx, List.set, uf, up_at, ud_ap, List.set_cons_succ, List.set_cons_zero]; rfl) (fun j hj => ⟨(up_ne hj).symm, rfl⟩))
theorem ri_19_5 {K : Int → Prop} : rdI (PS h s r) 19 5 5 K = K (s 19 5) := rdI_q (PS_in ⟨by decide, by decide⟩) rfl
theorem wi_19_5 {K : az_H → Prop} : wrF (PS h s r) 19 5 5 .int (vi v) K = K (PS h (uf s 19 5 v) r) := wrF_q (PS_in ⟨by decide, by decide⟩) fit_i (PS_set (s' := uf s 19 5 v) ⟨by decide, by decide⟩ (by simp only [pcx, List.set, uf, up_at, ud_ap, List.set_cons_succ, List.set_cons_zero]; rfl) (fun j hj => ⟨(up_ne hj).symm, rfl⟩))
theorem ri_19_6 {K : Int → Prop} : rdI (PS h s r) 19 5 6 K = K (s 19 6) := rdI_q (PS_in ⟨by decide, by decide⟩) rfl
theorem wb_19_6_0 {K : az_H → Prop} : wrF (PS h s r) 19 5 6 .boolean (vi 0) K = K (PS h (uf s 19 6 0) r) := wrF_q (PS_in ⟨by decide, by decide⟩) (by simp [az_fit]) (PS_set (s' := uf s 19 6 0) ⟨by decide, by decide⟩ (by simp only [pcx, List.set, uf, up_at, ud_ap, List.set_cons_succ, List.set_cons_zero]; rfl) (fun j hj => ⟨(up_ne hj).symm, rfl⟩))
theorem wb_19_6_1 {K : az_H → Prop} : wrF (PS h s r) 19 5 6 .boolean (vi 1) K = K (PS h (uf s 19 6 1) r) := wrF_q (PS_in ⟨by decide, by decide⟩) (by simp [az_fit]) (PS_set (s' := uf s 19 6 1) ⟨by decide, by decide⟩ (by simp only [pcx, List.set, uf, up_at, ud_ap, List.set_cons_succ, List.set_cons_zero]; rfl) (fun j hj => ⟨(up_ne hj).symm, rfl⟩))
theorem rc_22 {K : Prop} : rcv (PS h s r) 22 9 K = K := rcv_q (PS_in ⟨by decide, by decide⟩)
theorem ro_22_0 {K : Nat → Prop} : rdO (PS h s r) 22 9 0 K = K 23 := rdO_q (PS_in ⟨by decide, by decide⟩) rfl
theorem ro_22_1 {K : Nat → Prop} : rdO (PS h s r) 22 9 1 K = K 24 := rdO_q (PS_in ⟨by decide, by decide⟩) rfl
theorem ro_22_2 {K : Nat → Prop} : rdO (PS h s r) 22 9 2 K = K 25 := rdO_q (PS_in ⟨by decide, by decide⟩) rfl
theorem ro_22_3 {K : Nat → Prop} : rdO (PS h s r) 22 9 3 K = K 26 := rdO_q (PS_in ⟨by decide, by decide⟩) rfl
theorem ri_22_4 {K : Int → Prop} : rdI (PS h s r) 22 9 4 K = K (s 22 4) := rdI_q (PS_in ⟨by decide, by decide⟩) rfl
theorem wb_22_4_0 {K : az_H → Prop} : wrF (PS h s r) 22 9 4 .boolean (vi 0) K = K (PS h (uf s 22 4 0) r) := wrF_q (PS_in ⟨by decide, by decide⟩) (by simp [az_fit]) (PS_set (s' := uf s 22 4 0) ⟨by decide, by decide⟩ (by simp only [pcx, List.set, uf, up_at, ud_ap, List.set_cons_succ, List.set_cons_zero]; rfl) (fun j hj => ⟨(up_ne hj).symm, rfl⟩))
theorem wb_22_4_1 {K : az_H → Prop} : wrF (PS h s r) 22 9 4 .boolean (vi 1) K = K (PS h (uf s 22 4 1) r) := wrF_q (PS_in ⟨by decide, by decide⟩) (by simp [az_fit]) (PS_set (s' := uf s 22 4 1) ⟨by decide, by decide⟩ (by simp only [pcx, List.set, uf, up_at, ud_ap, List.set_cons_succ, List.set_cons_zero]; rfl) (fun j hj => ⟨(up_ne hj).symm, rfl⟩))
theorem ri_22_5 {K : Int → Prop} : rdI (PS h s r) 22 9 5 K = K (s 22 5) := rdI_q (PS_in ⟨by decide, by decide⟩) rfl
theorem wb_22_5_0 {K : az_H → Prop} : wrF (PS h s r) 22 9 5 .boolean (vi 0) K = K (PS h (uf s 22 5 0) r) := wrF_q (PS_in ⟨by decide, by decide⟩) (by simp [az_fit]) (PS_set (s' := uf s 22 5 0) ⟨by decide, by decide⟩ (by simp only [pcx, List.set, uf, up_at, ud_ap, List.set_cons_succ, List.set_cons_zero]; rfl) (fun j hj => ⟨(up_ne hj).symm, rfl⟩))
theorem wb_22_5_1 {K : az_H → Prop} : wrF (PS h s r) 22 9 5 .boolean (vi 1) K = K (PS h (uf s 22 5 1) r) := wrF_q (PS_in ⟨by decide, by decide⟩) (by simp [az_fit]) (PS_set (s' := uf s 22 5 1) ⟨by decide, by decide⟩ (by simp only [pcx, List.set, uf, up_at, ud_ap, List.set_cons_succ, List.set_cons_zero]; rfl) (fun j hj => ⟨(up_ne hj).symm, rfl⟩))
theorem rc_27 {K : Prop} : rcv (PS h s r) 27 4 K = K := rcv_q (PS_in ⟨by decide, by decide⟩)
theorem ro_27_0 {K : Nat → Prop} : rdO (PS h s r) 27 4 0 K = K 22 := rdO_q (PS_in ⟨by decide, by decide⟩) rfl
theorem ro_27_1 {K : Nat → Prop} : rdO (PS h s r) 27 4 1 K = K 28 := rdO_q (PS_in ⟨by decide, by decide⟩) rfl
theorem ro_27_2 {K : Nat → Prop} : rdO (PS h s r) 27 4 2 K = K 29 := rdO_q (PS_in ⟨by decide, by decide⟩) rfl
theorem ro_27_3 {K : Nat → Prop} : rdO (PS h s r) 27 4 3 K = K 30 := rdO_q (PS_in ⟨by decide, by decide⟩) rfl
theorem ro_27_4 {K : Nat → Prop} : rdO (PS h s r) 27 4 4 K = K 34 := rdO_q (PS_in ⟨by decide, by decide⟩) rfl
theorem ri_27_5 {K : Int → Prop} : rdI (PS h s r) 27 4 5 K = K (s 27 5) := rdI_q (PS_in ⟨by decide, by decide⟩) rfl
theorem wi_27_5 {K : az_H → Prop} : wrF (PS h s r) 27 4 5 .int (vi v) K = K (PS h (uf s 27 5 v) r) := wrF_q (PS_in ⟨by decide, by decide⟩) fit_i (PS_set (s' := uf s 27 5 v) ⟨by decide, by decide⟩ (by simp only [pcx, List.set, uf, up_at, ud_ap, List.set_cons_succ, List.set_cons_zero]; rfl) (fun j hj => ⟨(up_ne hj).symm, rfl⟩))
theorem rc_28 {K : Prop} : rcv (PS h s r) 28 0 K = K := rcv_q (PS_in ⟨by decide, by decide⟩)
theorem ri_28_0 {K : Int → Prop} : rdI (PS h s r) 28 0 0 K = K 0 := rdI_q (PS_in ⟨by decide, by decide⟩) rfl
theorem ri_28_1 {K : Int → Prop} : rdI (PS h s r) 28 0 1 K = K 0 := rdI_q (PS_in ⟨by decide, by decide⟩) rfl
theorem ri_28_2 {K : Int → Prop} : rdI (PS h s r) 28 0 2 K = K 0 := rdI_q (PS_in ⟨by decide, by decide⟩) rfl
theorem ri_28_3 {K : Int → Prop} : rdI (PS h s r) 28 0 3 K = K 0 := rdI_q (PS_in ⟨by decide, by decide⟩) rfl
theorem rc_35 {K : Prop} : rcv (PS h s r) 35 7 K = K := rcv_q (PS_in ⟨by decide, by decide⟩)
theorem ro_35_0 {K : Nat → Prop} : rdO (PS h s r) 35 7 0 K = K 27 := rdO_q (PS_in ⟨by decide, by decide⟩) rfl
theorem ro_35_1 {K : Nat → Prop} : rdO (PS h s r) 35 7 1 K = K 36 := rdO_q (PS_in ⟨by decide, by decide⟩) rfl
theorem ro_35_2 {K : Nat → Prop} : rdO (PS h s r) 35 7 2 K = K 42 := rdO_q (PS_in ⟨by decide, by decide⟩) rfl
theorem ro_35_3 {K : Nat → Prop} : rdO (PS h s r) 35 7 3 K = K 43 := rdO_q (PS_in ⟨by decide, by decide⟩) rfl
theorem ri_35_4 {K : Int → Prop} : rdI (PS h s r) 35 7 4 K = K (s 35 4) := rdI_q (PS_in ⟨by decide, by decide⟩) rfl
theorem wi_35_4 {K : az_H → Prop} : wrF (PS h s r) 35 7 4 .int (vi v) K = K (PS h (uf s 35 4 v) r) := wrF_q (PS_in ⟨by decide, by decide⟩) fit_i (PS_set (s' := uf s 35 4 v) ⟨by decide, by decide⟩ (by simp only [pcx, List.set, uf, up_at, ud_ap, List.set_cons_succ, List.set_cons_zero]; rfl) (fun j hj => ⟨(up_ne hj).symm, rfl⟩))
theorem ri_35_5 {K : Int → Prop} : rdI (PS h s r) 35 7 5 K = K (s 35 5) := rdI_q (PS_in ⟨by decide, by decide⟩) rfl
theorem wi_35_5 {K : az_H → Prop} : wrF (PS h s r) 35 7 5 .int (vi v) K = K (PS h (uf s 35 5 v) r) := wrF_q (PS_in ⟨by decide, by decide⟩) fit_i (PS_set (s' := uf s 35 5 v) ⟨by decide, by decide⟩ (by simp only [pcx, List.set, uf, up_at, ud_ap, List.set_cons_succ, List.set_cons_zero]; rfl) (fun j hj => ⟨(up_ne hj).symm, rfl⟩))
theorem rc_36 {K : Prop} : rcv (PS h s r) 36 3 K = K := rcv_q (PS_in ⟨by decide, by decide⟩)
theorem ro_36_0 {K : Nat → Prop} : rdO (PS h s r) 36 3 0 K = K 37 := rdO_q (PS_in ⟨by decide, by decide⟩) rfl
theorem ro_36_1 {K : Nat → Prop} : rdO (PS h s r) 36 3 1 K = K 38 := rdO_q (PS_in ⟨by decide, by decide⟩) rfl
theorem ro_36_2 {K : Nat → Prop} : rdO (PS h s r) 36 3 2 K = K 39 := rdO_q (PS_in ⟨by decide, by decide⟩) rfl
theorem ro_36_3 {K : Nat → Prop} : rdO (PS h s r) 36 3 3 K = K 40 := rdO_q (PS_in ⟨by decide, by decide⟩) rfl
theorem ro_36_4 {K : Nat → Prop} : rdO (PS h s r) 36 3 4 K = K 41 := rdO_q (PS_in ⟨by decide, by decide⟩) rfl
theorem ri_36_5 {K : Int → Prop} : rdI (PS h s r) 36 3 5 K = K (s 36 5) := rdI_q (PS_in ⟨by decide, by decide⟩) rfl
theorem wi_36_5 {K : az_H → Prop} : wrF (PS h s r) 36 3 5 .int (vi v) K = K (PS h (uf s 36 5 v) r) := wrF_q (PS_in ⟨by decide, by decide⟩) fit_i (PS_set (s' := uf s 36 5 v) ⟨by decide, by decide⟩ (by simp only [pcx, List.set, uf, up_at, ud_ap, List.set_cons_succ, List.set_cons_zero]; rfl) (fun j hj => ⟨(up_ne hj).symm, rfl⟩))
theorem rc_44 {K : Prop} : rcv (PS h s r) 44 2 K = K := rcv_q (PS_in ⟨by decide, by decide⟩)
theorem ro_44_0 {K : Nat → Prop} : rdO (PS h s r) 44 2 0 K = K 35 := rdO_q (PS_in ⟨by decide, by decide⟩) rfl
theorem ro_44_1 {K : Nat → Prop} : rdO (PS h s r) 44 2 1 K = K 22 := rdO_q (PS_in ⟨by decide, by decide⟩) rfl
theorem ro_44_2 {K : Nat → Prop} : rdO (PS h s r) 44 2 2 K = K 45 := rdO_q (PS_in ⟨by decide, by decide⟩) rfl
theorem ri_44_3 {K : Int → Prop} : rdI (PS h s r) 44 2 3 K = K (s 44 3) := rdI_q (PS_in ⟨by decide, by decide⟩) rfl
theorem wi_44_3 {K : az_H → Prop} : wrF (PS h s r) 44 2 3 .int (vi v) K = K (PS h (uf s 44 3 v) r) := wrF_q (PS_in ⟨by decide, by decide⟩) fit_i (PS_set (s' := uf s 44 3 v) ⟨by decide, by decide⟩ (by simp only [pcx, List.set, uf, up_at, ud_ap, List.set_cons_succ, List.set_cons_zero]; rfl) (fun j hj => ⟨(up_ne hj).symm, rfl⟩))
theorem rc_45 {K : Prop} : rcv (PS h s r) 45 6 K = K := rcv_q (PS_in ⟨by decide, by decide⟩)
theorem ri_45_0 {K : Int → Prop} : rdI (PS h s r) 45 6 0 K = K 8 := rdI_q (PS_in ⟨by decide, by decide⟩) rfl
theorem ro_45_1 {K : Nat → Prop} : rdO (PS h s r) 45 6 1 K = K 46 := rdO_q (PS_in ⟨by decide, by decide⟩) rfl
theorem ro_45_2 {K : Nat → Prop} : rdO (PS h s r) 45 6 2 K = K 47 := rdO_q (PS_in ⟨by decide, by decide⟩) rfl
theorem ri_45_3 {K : Int → Prop} : rdI (PS h s r) 45 6 3 K = K (s 45 3) := rdI_q (PS_in ⟨by decide, by decide⟩) rfl
theorem wi_45_3 {K : az_H → Prop} : wrF (PS h s r) 45 6 3 .int (vi v) K = K (PS h (uf s 45 3 v) r) := wrF_q (PS_in ⟨by decide, by decide⟩) fit_i (PS_set (s' := uf s 45 3 v) ⟨by decide, by decide⟩ (by simp only [pcx, List.set, uf, up_at, ud_ap, List.set_cons_succ, List.set_cons_zero]; rfl) (fun j hj => ⟨(up_ne hj).symm, rfl⟩))
theorem rc_48 {K : Prop} : rcv (PS h s r) 48 6 K = K := rcv_q (PS_in ⟨by decide, by decide⟩)
theorem ri_48_0 {K : Int → Prop} : rdI (PS h s r) 48 6 0 K = K 20 := rdI_q (PS_in ⟨by decide, by decide⟩) rfl
theorem ro_48_1 {K : Nat → Prop} : rdO (PS h s r) 48 6 1 K = K 49 := rdO_q (PS_in ⟨by decide, by decide⟩) rfl
theorem ro_48_2 {K : Nat → Prop} : rdO (PS h s r) 48 6 2 K = K 50 := rdO_q (PS_in ⟨by decide, by decide⟩) rfl
theorem ri_48_3 {K : Int → Prop} : rdI (PS h s r) 48 6 3 K = K (s 48 3) := rdI_q (PS_in ⟨by decide, by decide⟩) rfl
theorem wi_48_3 {K : az_H → Prop} : wrF (PS h s r) 48 6 3 .int (vi v) K = K (PS h (uf s 48 3 v) r) := wrF_q (PS_in ⟨by decide, by decide⟩) fit_i (PS_set (s' := uf s 48 3 v) ⟨by decide, by decide⟩ (by simp only [pcx, List.set, uf, up_at, ud_ap, List.set_cons_succ, List.set_cons_zero]; rfl) (fun j hj => ⟨(up_ne hj).symm, rfl⟩))
theorem rc_54 {K : Prop} : rcv (PS h s r) 54 11 K = K := rcv_q (PS_in ⟨by decide, by decide⟩)
theorem ro_54_0 {K : Nat → Prop} : rdO (PS h s r) 54 11 0 K = K 55 := rdO_q (PS_in ⟨by decide, by decide⟩) rfl
theorem ri_54_1 {K : Int → Prop} : rdI (PS h s r) 54 11 1 K = K (s 54 1) := rdI_q (PS_in ⟨by decide, by decide⟩) rfl
theorem wi_54_1 {K : az_H → Prop} : wrF (PS h s r) 54 11 1 .int (vi v) K = K (PS h (uf s 54 1 v) r) := wrF_q (PS_in ⟨by decide, by decide⟩) fit_i (PS_set (s' := uf s 54 1 v) ⟨by decide, by decide⟩ (by simp only [pcx, List.set, uf, up_at, ud_ap, List.set_cons_succ, List.set_cons_zero]; rfl) (fun j hj => ⟨(up_ne hj).symm, rfl⟩))
theorem ri_54_2 {K : Int → Prop} : rdI (PS h s r) 54 11 2 K = K (s 54 2) := rdI_q (PS_in ⟨by decide, by decide⟩) rfl
theorem wi_54_2 {K : az_H → Prop} : wrF (PS h s r) 54 11 2 .int (vi v) K = K (PS h (uf s 54 2 v) r) := wrF_q (PS_in ⟨by decide, by decide⟩) fit_i (PS_set (s' := uf s 54 2 v) ⟨by decide, by decide⟩ (by simp only [pcx, List.set, uf, up_at, ud_ap, List.set_cons_succ, List.set_cons_zero]; rfl) (fun j hj => ⟨(up_ne hj).symm, rfl⟩))
theorem ri_54_3 {K : Int → Prop} : rdI (PS h s r) 54 11 3 K = K (s 54 3) := rdI_q (PS_in ⟨by decide, by decide⟩) rfl
theorem wi_54_3 {K : az_H → Prop} : wrF (PS h s r) 54 11 3 .int (vi v) K = K (PS h (uf s 54 3 v) r) := wrF_q (PS_in ⟨by decide, by decide⟩) fit_i (PS_set (s' := uf s 54 3 v) ⟨by decide, by decide⟩ (by simp only [pcx, List.set, uf, up_at, ud_ap, List.set_cons_succ, List.set_cons_zero]; rfl) (fun j hj => ⟨(up_ne hj).symm, rfl⟩))
theorem ri_54_4 {K : Int → Prop} : rdI (PS h s r) 54 11 4 K = K (s 54 4) := rdI_q (PS_in ⟨by decide, by decide⟩) rfl
theorem wi_54_4 {K : az_H → Prop} : wrF (PS h s r) 54 11 4 .int (vi v) K = K (PS h (uf s 54 4 v) r) := wrF_q (PS_in ⟨by decide, by decide⟩) fit_i (PS_set (s' := uf s 54 4 v) ⟨by decide, by decide⟩ (by simp only [pcx, List.set, uf, up_at, ud_ap, List.set_cons_succ, List.set_cons_zero]; rfl) (fun j hj => ⟨(up_ne hj).symm, rfl⟩))
theorem ri_54_5 {K : Int → Prop} : rdI (PS h s r) 54 11 5 K = K (s 54 5) := rdI_q (PS_in ⟨by decide, by decide⟩) rfl
theorem wi_54_5 {K : az_H → Prop} : wrF (PS h s r) 54 11 5 .int (vi v) K = K (PS h (uf s 54 5 v) r) := wrF_q (PS_in ⟨by decide, by decide⟩) fit_i (PS_set (s' := uf s 54 5 v) ⟨by decide, by decide⟩ (by simp only [pcx, List.set, uf, up_at, ud_ap, List.set_cons_succ, List.set_cons_zero]; rfl) (fun j hj => ⟨(up_ne hj).symm, rfl⟩))
theorem ri_54_6 {K : Int → Prop} : rdI (PS h s r) 54 11 6 K = K (s 54 6) := rdI_q (PS_in ⟨by decide, by decide⟩) rfl
theorem wi_54_6 {K : az_H → Prop} : wrF (PS h s r) 54 11 6 .int (vi v) K = K (PS h (uf s 54 6 v) r) := wrF_q (PS_in ⟨by decide, by decide⟩) fit_i (PS_set (s' := uf s 54 6 v) ⟨by decide, by decide⟩ (by simp only [pcx, List.set, uf, up_at, ud_ap, List.set_cons_succ, List.set_cons_zero]; rfl) (fun j hj => ⟨(up_ne hj).symm, rfl⟩))
theorem ro_54_7 {K : Nat → Prop} : rdO (PS h s r) 54 11 7 K = K 56 := rdO_q (PS_in ⟨by decide, by decide⟩) rfl
theorem ro_54_8 {K : Nat → Prop} : rdO (PS h s r) 54 11 8 K = K 57 := rdO_q (PS_in ⟨by decide, by decide⟩) rfl
theorem ro_54_9 {K : Nat → Prop} : rdO (PS h s r) 54 11 9 K = K 58 := rdO_q (PS_in ⟨by decide, by decide⟩) rfl
theorem ro_54_10 {K : Nat → Prop} : rdO (PS h s r) 54 11 10 K = K 59 := rdO_q (PS_in ⟨by decide, by decide⟩) rfl
theorem ro_54_11 {K : Nat → Prop} : rdO (PS h s r) 54 11 11 K = K 60 := rdO_q (PS_in ⟨by decide, by decide⟩) rfl
theorem ro_54_12 {K : Nat → Prop} : rdO (PS h s r) 54 11 12 K = K 61 := rdO_q (PS_in ⟨by decide, by decide⟩) rfl
theorem ri_54_13 {K : Int → Prop} : rdI (PS h s r) 54 11 13 K = K (s 54 13) := rdI_q (PS_in ⟨by decide, by decide⟩) rfl
theorem wi_54_13 {K : az_H → Prop} : wrF (PS h s r) 54 11 13 .int (vi v) K = K (PS h (uf s 54 13 v) r) := wrF_q (PS_in ⟨by decide, by decide⟩) fit_i (PS_set (s' := uf s 54 13 v) ⟨by decide, by decide⟩ (by simp only [pcx, List.set, uf, up_at, ud_ap, List.set_cons_succ, List.set_cons_zero]; rfl) (fun j hj => ⟨(up_ne hj).symm, rfl⟩))
theorem ri_54_14 {K : Int → Prop} : rdI (PS h s r) 54 11 14 K = K (s 54 14) := rdI_q (PS_in ⟨by decide, by decide⟩) rfl
theorem wb_54_14_0 {K : az_H → Prop} : wrF (PS h s r) 54 11 14 .boolean (vi 0) K = K (PS h (uf s 54 14 0) r) := wrF_q (PS_in ⟨by decide, by decide⟩) (by simp [az_fit]) (PS_set (s' := uf s 54 14 0) ⟨by decide, by decide⟩ (by simp only [pcx, List.set, uf, up_at, ud_ap, List.set_cons_succ, List.set_cons_zero]; rfl) (fun j hj => ⟨(up_ne hj).symm, rfl⟩))
theorem wb_54_14_1 {K : az_H → Prop} : wrF (PS h s r) 54 11 14 .boolean (vi 1) K = K (PS h (uf s 54 14 1) r) := wrF_q (PS_in ⟨by decide, by decide⟩) (by simp [az_fit]) (PS_set (s' := uf s 54 14 1) ⟨by decide, by decide⟩ (by simp only [pcx, List.set, uf, up_at, ud_ap, List.set_cons_succ, List.set_cons_zero]; rfl) (fun j hj => ⟨(up_ne hj).symm, rfl⟩))
theorem ri_54_15 {K : Int → Prop} : rdI (PS h s r) 54 11 15 K = K (s 54 15) := rdI_q (PS_in ⟨by decide, by decide⟩) rfl
theorem wi_54_15 {K : az_H → Prop} : wrF (PS h s r) 54 11 15 .int (vi v) K = K (PS h (uf s 54 15 v) r) := wrF_q (PS_in ⟨by decide, by decide⟩) fit_i (PS_set (s' := uf s 54 15 v) ⟨by decide, by decide⟩ (by simp only [pcx, List.set, uf, up_at, ud_ap, List.set_cons_succ, List.set_cons_zero]; rfl) (fun j hj => ⟨(up_ne hj).symm, rfl⟩))
theorem ro_54_16 {K : Nat → Prop} : rdO (PS h s r) 54 11 16 K = K 62 := rdO_q (PS_in ⟨by decide, by decide⟩) rfl
theorem ri_54_17 {K : Int → Prop} : rdI (PS h s r) 54 11 17 K = K (s 54 17) := rdI_q (PS_in ⟨by decide, by decide⟩) rfl
theorem wi_54_17 {K : az_H → Prop} : wrF (PS h s r) 54 11 17 .int (vi v) K = K (PS h (uf s 54 17 v) r) := wrF_q (PS_in ⟨by decide, by decide⟩) fit_i (PS_set (s' := uf s 54 17 v) ⟨by decide, by decide⟩ (by simp only [pcx, List.set, uf, up_at, ud_ap, List.set_cons_succ, List.set_cons_zero]; rfl) (fun j hj => ⟨(up_ne hj).symm, rfl⟩))
theorem ri_54_18 {K : Int → Prop} : rdI (PS h s r) 54 11 18 K = K (s 54 18) := rdI_q (PS_in ⟨by decide, by decide⟩) rfl
theorem wi_54_18 {K : az_H → Prop} : wrF (PS h s r) 54 11 18 .int (vi v) K = K (PS h (uf s 54 18 v) r) := wrF_q (PS_in ⟨by decide, by decide⟩) fit_i (PS_set (s' := uf s 54 18 v) ⟨by decide, by decide⟩ (by simp only [pcx, List.set, uf, up_at, ud_ap, List.set_cons_succ, List.set_cons_zero]; rfl) (fun j hj => ⟨(up_ne hj).symm, rfl⟩))
theorem ri_54_19 {K : Int → Prop} : rdI (PS h s r) 54 11 19 K = K (s 54 19) := rdI_q (PS_in ⟨by decide, by decide⟩) rfl
theorem wi_54_19 {K : az_H → Prop} : wrF (PS h s r) 54 11 19 .int (vi v) K = K (PS h (uf s 54 19 v) r) := wrF_q (PS_in ⟨by decide, by decide⟩) fit_i (PS_set (s' := uf s 54 19 v) ⟨by decide, by decide⟩ (by simp only [pcx, List.set, uf, up_at, ud_ap, List.set_cons_succ, List.set_cons_zero]; rfl) (fun j hj => ⟨(up_ne hj).symm, rfl⟩))
theorem ro_54_20 {K : Nat → Prop} : rdO (PS h s r) 54 11 20 K = K 63 := rdO_q (PS_in ⟨by decide, by decide⟩) rfl
theorem ri_54_21 {K : Int → Prop} : rdI (PS h s r) 54 11 21 K = K (s 54 21) := rdI_q (PS_in ⟨by decide, by decide⟩) rfl
theorem wi_54_21 {K : az_H → Prop} : wrF (PS h s r) 54 11 21 .int (vi v) K = K (PS h (uf s 54 21 v) r) := wrF_q (PS_in ⟨by decide, by decide⟩) fit_i (PS_set (s' := uf s 54 21 v) ⟨by decide, by decide⟩ (by simp only [pcx, List.set, uf, up_at, ud_ap, List.set_cons_succ, List.set_cons_zero]; rfl) (fun j hj => ⟨(up_ne hj).symm, rfl⟩))
theorem ro_54_22 {K : Nat → Prop} : rdO (PS h s r) 54 11 22 K = K 64 := rdO_q (PS_in ⟨by decide, by decide⟩) rfl
theorem ro_54_23 {K : Nat → Prop} : rdO (PS h s r) 54 11 23 K = K 65 := rdO_q (PS_in ⟨by decide, by decide⟩) rfl
theorem ro_54_24 {K : Nat → Prop} : rdO (PS h s r) 54 11 24 K = K 66 := rdO_q (PS_in ⟨by decide, by decide⟩) rfl
theorem ro_54_25 {K : Nat → Prop} : rdO (PS h s r) 54 11 25 K = K 67 := rdO_q (PS_in ⟨by decide, by decide⟩) rfl
theorem ro_54_26 {K : Nat → Prop} : rdO (PS h s r) 54 11 26 K = K 68 := rdO_q (PS_in ⟨by decide, by decide⟩) rfl
theorem ri_54_27 {K : Int → Prop} : rdI (PS h s r) 54 11 27 K = K (s 54 27) := rdI_q (PS_in ⟨by decide, by decide⟩) rfl
theorem wi_54_27 {K : az_H → Prop} : wrF (PS h s r) 54 11 27 .int (vi v) K = K (PS h (uf s 54 27 v) r) := wrF_q (PS_in ⟨by decide, by decide⟩) fit_i (PS_set (s' := uf s 54 27 v) ⟨by decide, by decide⟩ (by simp only [pcx, List.set, uf, up_at, ud_ap, List.set_cons_succ, List.set_cons_zero]; rfl) (fun j hj => ⟨(up_ne hj).symm, rfl⟩))
theorem ro_54_28 {K : Nat → Prop} : rdO (PS h s r) 54 11 28 K = K 69 := rdO_q (PS_in ⟨by decide, by decide⟩) rfl
theorem ri_54_29 {K : Int → Prop} : rdI (PS h s r) 54 11 29 K = K (s 54 29) := rdI_q (PS_in ⟨by decide, by decide⟩) rfl
theorem wb_54_29_0 {K : az_H → Prop} : wrF (PS h s r) 54 11 29 .boolean (vi 0) K = K (PS h (uf s 54 29 0) r) := wrF_q (PS_in ⟨by decide, by decide⟩) (by simp [az_fit]) (PS_set (s' := uf s 54 29 0) ⟨by decide, by decide⟩ (by simp only [pcx, List.set, uf, up_at, ud_ap, List.set_cons_succ, List.set_cons_zero]; rfl) (fun j hj => ⟨(up_ne hj).symm, rfl⟩))
theorem wb_54_29_1 {K : az_H → Prop} : wrF (PS h s r) 54 11 29 .boolean (vi 1) K = K (PS h (uf s 54 29 1) r) := wrF_q (PS_in ⟨by decide, by decide⟩) (by simp [az_fit]) (PS_set (s' := uf s 54 29 1) ⟨by decide, by decide⟩ (by simp only [pcx, List.set, uf, up_at, ud_ap, List.set_cons_succ, List.set_cons_zero]; rfl) (fun j hj => ⟨(up_ne hj).symm, rfl⟩))
theorem ri_54_30 {K : Int → Prop} : rdI (PS h s r) 54 11 30 K = K (s 54 30) := rdI_q (PS_in ⟨by decide, by decide⟩) rfl
theorem wb_54_30_0 {K : az_H → Prop} : wrF (PS h s r) 54 11 30 .boolean (vi 0) K = K (PS h (uf s 54 30 0) r) := wrF_q (PS_in ⟨by decide, by decide⟩) (by simp [az_fit]) (PS_set (s' := uf s 54 30 0) ⟨by decide, by decide⟩ (by simp only [pcx, List.set, uf, up_at, ud_ap, List.set_cons_succ, List.set_cons_zero]; rfl) (fun j hj => ⟨(up_ne hj).symm, rfl⟩))
theorem wb_54_30_1 {K : az_H → Prop} : wrF (PS h s r) 54 11 30 .boolean (vi 1) K = K (PS h (uf s 54 30 1) r) := wrF_q (PS_in ⟨by decide, by decide⟩) (by simp [az_fit]) (PS_set (s' := uf s 54 30 1) ⟨by decide, by decide⟩ (by simp only [pcx, List.set, uf, up_at, ud_ap, List.set_cons_succ, List.set_cons_zero]; rfl) (fun j hj => ⟨(up_ne hj).symm, rfl⟩))
theorem ro_54_31 {K : Nat → Prop} : rdO (PS h s r) 54 11 31 K = K 70 := rdO_q (PS_in ⟨by decide, by decide⟩) rfl
theorem ri_54_32 {K : Int → Prop} : rdI (PS h s r) 54 11 32 K = K (s 54 32) := rdI_q (PS_in ⟨by decide, by decide⟩) rfl
theorem wi_54_32 {K : az_H → Prop} : wrF (PS h s r) 54 11 32 .int (vi v) K = K (PS h (uf s 54 32 v) r) := wrF_q (PS_in ⟨by decide, by decide⟩) fit_i (PS_set (s' := uf s 54 32 v) ⟨by decide, by decide⟩ (by simp only [pcx, List.set, uf, up_at, ud_ap, List.set_cons_succ, List.set_cons_zero]; rfl) (fun j hj => ⟨(up_ne hj).symm, rfl⟩))
theorem ri_54_33 {K : Int → Prop} : rdI (PS h s r) 54 11 33 K = K (s 54 33) := rdI_q (PS_in ⟨by decide, by decide⟩) rfl
theorem wb_54_33_0 {K : az_H → Prop} : wrF (PS h s r) 54 11 33 .boolean (vi 0) K = K (PS h (uf s 54 33 0) r) := wrF_q (PS_in ⟨by decide, by decide⟩) (by simp [az_fit]) (PS_set (s' := uf s 54 33 0) ⟨by decide, by decide⟩ (by simp only [pcx, List.set, uf, up_at, ud_ap, List.set_cons_succ, List.set_cons_zero]; rfl) (fun j hj => ⟨(up_ne hj).symm, rfl⟩))
theorem wb_54_33_1 {K : az_H → Prop} : wrF (PS h s r) 54 11 33 .boolean (vi 1) K = K (PS h (uf s 54 33 1) r) := wrF_q (PS_in ⟨by decide, by decide⟩) (by simp [az_fit]) (PS_set (s' := uf s 54 33 1) ⟨by decide, by decide⟩ (by simp only [pcx, List.set, uf, up_at, ud_ap, List.set_cons_succ, List.set_cons_zero]; rfl) (fun j hj => ⟨(up_ne hj).symm, rfl⟩))
theorem ri_54_34 {K : Int → Prop} : rdI (PS h s r) 54 11 34 K = K (s 54 34) := rdI_q (PS_in ⟨by decide, by decide⟩) rfl
theorem wi_54_34 {K : az_H → Prop} : wrF (PS h s r) 54 11 34 .int (vi v) K = K (PS h (uf s 54 34 v) r) := wrF_q (PS_in ⟨by decide, by decide⟩) fit_i (PS_set (s' := uf s 54 34 v) ⟨by decide, by decide⟩ (by simp only [pcx, List.set, uf, up_at, ud_ap, List.set_cons_succ, List.set_cons_zero]; rfl) (fun j hj => ⟨(up_ne hj).symm, rfl⟩))
theorem ro_54_35 {K : Nat → Prop} : rdO (PS h s r) 54 11 35 K = K 71 := rdO_q (PS_in ⟨by decide, by decide⟩) rfl
theorem ro_54_36 {K : Nat → Prop} : rdO (PS h s r) 54 11 36 K = K 72 := rdO_q (PS_in ⟨by decide, by decide⟩) rfl
theorem ro_54_37 {K : Nat → Prop} : rdO (PS h s r) 54 11 37 K = K 73 := rdO_q (PS_in ⟨by decide, by decide⟩) rfl
theorem ro_54_38 {K : Nat → Prop} : rdO (PS h s r) 54 11 38 K = K 74 := rdO_q (PS_in ⟨by decide, by decide⟩) rfl
theorem ro_54_39 {K : Nat → Prop} : rdO (PS h s r) 54 11 39 K = K 75 := rdO_q (PS_in ⟨by decide, by decide⟩) rfl
theorem ri_54_40 {K : Int → Prop} : rdI (PS h s r) 54 11 40 K = K (s 54 40) := rdI_q (PS_in ⟨by decide, by decide⟩) rfl
theorem wi_54_40 {K : az_H → Prop} : wrF (PS h s r) 54 11 40 .int (vi v) K = K (PS h (uf s 54 40 v) r) := wrF_q (PS_in ⟨by decide, by decide⟩) fit_i (PS_set (s' := uf s 54 40 v) ⟨by decide, by decide⟩ (by simp only [pcx, List.set, uf, up_at, ud_ap, List.set_cons_succ, List.set_cons_zero]; rfl) (fun j hj => ⟨(up_ne hj).symm, rfl⟩))
theorem ro_54_41 {K : Nat → Prop} : rdO (PS h s r) 54 11 41 K = K 76 := rdO_q (PS_in ⟨by decide, by decide⟩) rfl
theorem ro_54_42 {K : Nat → Prop} : rdO (PS h s r) 54 11 42 K = K 77 := rdO_q (PS_in ⟨by decide, by decide⟩) rfl
theorem ro_54_43 {K : Nat → Prop} : rdO (PS h s r) 54 11 43 K = K 78 := rdO_q (PS_in ⟨by decide, by decide⟩) rfl
theorem ro_54_44 {K : Nat → Prop} : rdO (PS h s r) 54 11 44 K = K 79 := rdO_q (PS_in ⟨by decide, by decide⟩) rfl
theorem ri_54_45 {K : Int → Prop} : rdI (PS h s r) 54 11 45 K = K (s 54 45) := rdI_q (PS_in ⟨by decide, by decide⟩) rfl
theorem wi_54_45 {K : az_H → Prop} : wrF (PS h s r) 54 11 45 .int (vi v) K = K (PS h (uf s 54 45 v) r) := wrF_q (PS_in ⟨by decide, by decide⟩) fit_i (PS_set (s' := uf s 54 45 v) ⟨by decide, by decide⟩ (by simp only [pcx, List.set, uf, up_at, ud_ap, List.set_cons_succ, List.set_cons_zero]; rfl) (fun j hj => ⟨(up_ne hj).symm, rfl⟩))
theorem ro_54_46 {K : Nat → Prop} : rdO (PS h s r) 54 11 46 K = K 80 := rdO_q (PS_in ⟨by decide, by decide⟩) rfl
theorem ro_54_47 {K : Nat → Prop} : rdO (PS h s r) 54 11 47 K = K 81 := rdO_q (PS_in ⟨by decide, by decide⟩) rfl
theorem ri_54_48 {K : Int → Prop} : rdI (PS h s r) 54 11 48 K = K (s 54 48) := rdI_q (PS_in ⟨by decide, by decide⟩) rfl
theorem wi_54_48 {K : az_H → Prop} : wrF (PS h s r) 54 11 48 .int (vi v) K = K (PS h (uf s 54 48 v) r) := wrF_q (PS_in ⟨by decide, by decide⟩) fit_i (PS_set (s' := uf s 54 48 v) ⟨by decide, by decide⟩ (by simp only [pcx, List.set, uf, up_at, ud_ap, List.set_cons_succ, List.set_cons_zero]; rfl) (fun j hj => ⟨(up_ne hj).symm, rfl⟩))
theorem ro_54_49 {K : Nat → Prop} : rdO (PS h s r) 54 11 49 K = K 82 := rdO_q (PS_in ⟨by decide, by decide⟩) rfl
theorem ri_54_50 {K : Int → Prop} : rdI (PS h s r) 54 11 50 K = K (s 54 50) := rdI_q (PS_in ⟨by decide, by decide⟩) rfl
theorem wi_54_50 {K : az_H → Prop} : wrF (PS h s r) 54 11 50 .int (vi v) K = K (PS h (uf s 54 50 v) r) := wrF_q (PS_in ⟨by decide, by decide⟩) fit_i (PS_set (s' := uf s 54 50 v) ⟨by decide, by decide⟩ (by simp only [pcx, List.set, uf, up_at, ud_ap, List.set_cons_succ, List.set_cons_zero]; rfl) (fun j hj => ⟨(up_ne hj).symm, rfl⟩))
theorem ro_54_51 {K : Nat → Prop} : rdO (PS h s r) 54 11 51 K = K 83 := rdO_q (PS_in ⟨by decide, by decide⟩) rfl
theorem ro_54_52 {K : Nat → Prop} : rdO (PS h s r) 54 11 52 K = K 84 := rdO_q (PS_in ⟨by decide, by decide⟩) rfl
theorem ri_54_53 {K : Int → Prop} : rdI (PS h s r) 54 11 53 K = K (s 54 53) := rdI_q (PS_in ⟨by decide, by decide⟩) rfl
theorem wi_54_53 {K : az_H → Prop} : wrF (PS h s r) 54 11 53 .int (vi v) K = K (PS h (uf s 54 53 v) r) := wrF_q (PS_in ⟨by decide, by decide⟩) fit_i (PS_set (s' := uf s 54 53 v) ⟨by decide, by decide⟩ (by simp only [pcx, List.set, uf, up_at, ud_ap, List.set_cons_succ, List.set_cons_zero]; rfl) (fun j hj => ⟨(up_ne hj).symm, rfl⟩))
theorem ro_54_54 {K : Nat → Prop} : rdO (PS h s r) 54 11 54 K = K 85 := rdO_q (PS_in ⟨by decide, by decide⟩) rfl
theorem ro_54_55 {K : Nat → Prop} : rdO (PS h s r) 54 11 55 K = K 86 := rdO_q (PS_in ⟨by decide, by decide⟩) rfl
theorem ro_54_56 {K : Nat → Prop} : rdO (PS h s r) 54 11 56 K = K 87 := rdO_q (PS_in ⟨by decide, by decide⟩) rfl
theorem ro_54_57 {K : Nat → Prop} : rdO (PS h s r) 54 11 57 K = K 88 := rdO_q (PS_in ⟨by decide, by decide⟩) rfl
theorem ri_54_58 {K : Int → Prop} : rdI (PS h s r) 54 11 58 K = K (s 54 58) := rdI_q (PS_in ⟨by decide, by decide⟩) rfl
theorem wi_54_58 {K : az_H → Prop} : wrF (PS h s r) 54 11 58 .int (vi v) K = K (PS h (uf s 54 58 v) r) := wrF_q (PS_in ⟨by decide, by decide⟩) fit_i (PS_set (s' := uf s 54 58 v) ⟨by decide, by decide⟩ (by simp only [pcx, List.set, uf, up_at, ud_ap, List.set_cons_succ, List.set_cons_zero]; rfl) (fun j hj => ⟨(up_ne hj).symm, rfl⟩))
theorem ld_18 {K : Int → Prop} : ldI (PS h s r) 18 .byte i K = (0 ≤ i ∧ i < 208 ∧ K (s 18 i)) := ldI_q (b := 208) ⟨by decide, by decide⟩ (fun _ _ _ => rfl) rfl
theorem st_18 {K : az_H → Prop} : stI (PS h s r) 18 .byte i x K = (0 ≤ i ∧ i < 208 ∧ K (PS h (uf s 18 i x) r)) := stI_q (b := 208) ⟨by decide, by decide⟩ (fun _ _ _ => rfl) rfl
theorem ld_20 {K : Int → Prop} : ldI (PS h s r) 20 .int i K = (0 ≤ i ∧ i < 208 ∧ K (s 20 i)) := ldI_q (b := 208) ⟨by decide, by decide⟩ (fun _ _ _ => rfl) rfl
theorem st_20 {K : az_H → Prop} : stI (PS h s r) 20 .int i x K = (0 ≤ i ∧ i < 208 ∧ K (PS h (uf s 20 i x) r)) := stI_q (b := 208) ⟨by decide, by decide⟩ (fun _ _ _ => rfl) rfl
theorem al_20 {K : Int → Prop} : aln (PS h s r) 20 K = K 208 := aln_q (b := 208) ⟨by decide, by decide⟩ (fun _ _ _ => rfl) (by simp [arrT]) rfl (by decide)
theorem ld_21 {K : Int → Prop} : ldI (PS h s r) 21 .int i K = (0 ≤ i ∧ i < 208 ∧ K (s 21 i)) := ldI_q (b := 208) ⟨by decide, by decide⟩ (fun _ _ _ => rfl) rfl
theorem st_21 {K : az_H → Prop} : stI (PS h s r) 21 .int i x K = (0 ≤ i ∧ i < 208 ∧ K (PS h (uf s 21 i x) r)) := stI_q (b := 208) ⟨by decide, by decide⟩ (fun _ _ _ => rfl) rfl
theorem al_21 {K : Int → Prop} : aln (PS h s r) 21 K = K 208 := aln_q (b := 208) ⟨by decide, by decide⟩ (fun _ _ _ => rfl) (by simp [arrT]) rfl (by decide)
theorem ld_24 {K : Int → Prop} : ldI (PS h s r) 24 .int i K = (0 ≤ i ∧ i < 6 ∧ K (s 24 i)) := ldI_q (b := 6) ⟨by decide, by decide⟩ (fun _ _ _ => rfl) rfl
theorem st_24 {K : az_H → Prop} : stI (PS h s r) 24 .int i x K = (0 ≤ i ∧ i < 6 ∧ K (PS h (uf s 24 i x) r)) := stI_q (b := 6) ⟨by decide, by decide⟩ (fun _ _ _ => rfl) rfl
theorem al_24 {K : Int → Prop} : aln (PS h s r) 24 K = K 6 := aln_q (b := 6) ⟨by decide, by decide⟩ (fun _ _ _ => rfl) (by simp [arrT]) rfl (by decide)
theorem ld_25 {K : Int → Prop} : ldI (PS h s r) 25 .int i K = (0 ≤ i ∧ i < 4 ∧ K (s 25 i)) := ldI_q (b := 4) ⟨by decide, by decide⟩ (fun _ _ _ => rfl) rfl
theorem st_25 {K : az_H → Prop} : stI (PS h s r) 25 .int i x K = (0 ≤ i ∧ i < 4 ∧ K (PS h (uf s 25 i x) r)) := stI_q (b := 4) ⟨by decide, by decide⟩ (fun _ _ _ => rfl) rfl
theorem al_25 {K : Int → Prop} : aln (PS h s r) 25 K = K 4 := aln_q (b := 4) ⟨by decide, by decide⟩ (fun _ _ _ => rfl) (by simp [arrT]) rfl (by decide)
theorem ld_29 {K : Int → Prop} : ldI (PS h s r) 29 .int i K = (0 ≤ i ∧ i < 19 ∧ K (s 29 i)) := ldI_q (b := 19) ⟨by decide, by decide⟩ (fun _ _ _ => rfl) rfl
theorem st_29 {K : az_H → Prop} : stI (PS h s r) 29 .int i x K = (0 ≤ i ∧ i < 19 ∧ K (PS h (uf s 29 i x) r)) := stI_q (b := 19) ⟨by decide, by decide⟩ (fun _ _ _ => rfl) rfl
theorem al_29 {K : Int → Prop} : aln (PS h s r) 29 K = K 19 := aln_q (b := 19) ⟨by decide, by decide⟩ (fun _ _ _ => rfl) (by simp [arrT]) rfl (by decide)
theorem ld_31 {K : Int → Prop} : ldI (PS h s r) 31 .int i K = (0 ≤ i ∧ i < 19 ∧ K (s 31 i)) := ldI_q (b := 19) ⟨by decide, by decide⟩ (fun _ _ _ => rfl) rfl
theorem st_31 {K : az_H → Prop} : stI (PS h s r) 31 .int i x K = (0 ≤ i ∧ i < 19 ∧ K (PS h (uf s 31 i x) r)) := stI_q (b := 19) ⟨by decide, by decide⟩ (fun _ _ _ => rfl) rfl
theorem al_31 {K : Int → Prop} : aln (PS h s r) 31 K = K 19 := aln_q (b := 19) ⟨by decide, by decide⟩ (fun _ _ _ => rfl) (by simp [arrT]) rfl (by decide)
theorem ld_32 {K : Int → Prop} : ldI (PS h s r) 32 .int i K = (0 ≤ i ∧ i < 19 ∧ K (s 32 i)) := ldI_q (b := 19) ⟨by decide, by decide⟩ (fun _ _ _ => rfl) rfl
theorem st_32 {K : az_H → Prop} : stI (PS h s r) 32 .int i x K = (0 ≤ i ∧ i < 19 ∧ K (PS h (uf s 32 i x) r)) := stI_q (b := 19) ⟨by decide, by decide⟩ (fun _ _ _ => rfl) rfl
theorem al_32 {K : Int → Prop} : aln (PS h s r) 32 K = K 19 := aln_q (b := 19) ⟨by decide, by decide⟩ (fun _ _ _ => rfl) (by simp [arrT]) rfl (by decide)
theorem ld_33 {K : Int → Prop} : ldI (PS h s r) 33 .int i K = (0 ≤ i ∧ i < 19 ∧ K (s 33 i)) := ldI_q (b := 19) ⟨by decide, by decide⟩ (fun _ _ _ => rfl) rfl
theorem st_33 {K : az_H → Prop} : stI (PS h s r) 33 .int i x K = (0 ≤ i ∧ i < 19 ∧ K (PS h (uf s 33 i x) r)) := stI_q (b := 19) ⟨by decide, by decide⟩ (fun _ _ _ => rfl) rfl
theorem al_33 {K : Int → Prop} : aln (PS h s r) 33 K = K 19 := aln_q (b := 19) ⟨by decide, by decide⟩ (fun _ _ _ => rfl) (by simp [arrT]) rfl (by decide)
theorem ld_34 {K : Int → Prop} : ldI (PS h s r) 34 .long i K = (0 ≤ i ∧ i < 32 ∧ K (s 34 i)) := ldI_q (b := 32) ⟨by decide, by decide⟩ (fun _ _ _ => rfl) rfl
theorem st_34 {K : az_H → Prop} : stI (PS h s r) 34 .long i x K = (0 ≤ i ∧ i < 32 ∧ K (PS h (uf s 34 i x) r)) := stI_q (b := 32) ⟨by decide, by decide⟩ (fun _ _ _ => rfl) rfl
theorem ld_37 {K : Int → Prop} : ldI (PS h s r) 37 .int i K = (0 ≤ i ∧ i < 7600 ∧ K (s 37 i)) := ldI_q (b := 7600) ⟨by decide, by decide⟩ (fun _ _ _ => rfl) rfl
theorem st_37 {K : az_H → Prop} : stI (PS h s r) 37 .int i x K = (0 ≤ i ∧ i < 7600 ∧ K (PS h (uf s 37 i x) r)) := stI_q (b := 7600) ⟨by decide, by decide⟩ (fun _ _ _ => rfl) rfl
theorem al_37 {K : Int → Prop} : aln (PS h s r) 37 K = K 7600 := aln_q (b := 7600) ⟨by decide, by decide⟩ (fun _ _ _ => rfl) (by simp [arrT]) rfl (by decide)
theorem ld_38 {K : Int → Prop} : ldI (PS h s r) 38 .int i K = (0 ≤ i ∧ i < 400 ∧ K (s 38 i)) := ldI_q (b := 400) ⟨by decide, by decide⟩ (fun _ _ _ => rfl) rfl
theorem st_38 {K : az_H → Prop} : stI (PS h s r) 38 .int i x K = (0 ≤ i ∧ i < 400 ∧ K (PS h (uf s 38 i x) r)) := stI_q (b := 400) ⟨by decide, by decide⟩ (fun _ _ _ => rfl) rfl
theorem al_38 {K : Int → Prop} : aln (PS h s r) 38 K = K 400 := aln_q (b := 400) ⟨by decide, by decide⟩ (fun _ _ _ => rfl) (by simp [arrT]) rfl (by decide)
theorem ld_39 {K : Int → Prop} : ldI (PS h s r) 39 .int i K = (0 ≤ i ∧ i < 400 ∧ K (s 39 i)) := ldI_q (b := 400) ⟨by decide, by decide⟩ (fun _ _ _ => rfl) rfl
theorem st_39 {K : az_H → Prop} : stI (PS h s r) 39 .int i x K = (0 ≤ i ∧ i < 400 ∧ K (PS h (uf s 39 i x) r)) := stI_q (b := 400) ⟨by decide, by decide⟩ (fun _ _ _ => rfl) rfl
theorem al_39 {K : Int → Prop} : aln (PS h s r) 39 K = K 400 := aln_q (b := 400) ⟨by decide, by decide⟩ (fun _ _ _ => rfl) (by simp [arrT]) rfl (by decide)
theorem ld_40 {K : Int → Prop} : ldI (PS h s r) 40 .int i K = (0 ≤ i ∧ i < 400 ∧ K (s 40 i)) := ldI_q (b := 400) ⟨by decide, by decide⟩ (fun _ _ _ => rfl) rfl
theorem st_40 {K : az_H → Prop} : stI (PS h s r) 40 .int i x K = (0 ≤ i ∧ i < 400 ∧ K (PS h (uf s 40 i x) r)) := stI_q (b := 400) ⟨by decide, by decide⟩ (fun _ _ _ => rfl) rfl
theorem al_40 {K : Int → Prop} : aln (PS h s r) 40 K = K 400 := aln_q (b := 400) ⟨by decide, by decide⟩ (fun _ _ _ => rfl) (by simp [arrT]) rfl (by decide)
theorem ld_41 {K : Int → Prop} : ldI (PS h s r) 41 .int i K = (0 ≤ i ∧ i < 1024 ∧ K (s 41 i)) := ldI_q (b := 1024) ⟨by decide, by decide⟩ (fun _ _ _ => rfl) rfl
theorem st_41 {K : az_H → Prop} : stI (PS h s r) 41 .int i x K = (0 ≤ i ∧ i < 1024 ∧ K (PS h (uf s 41 i x) r)) := stI_q (b := 1024) ⟨by decide, by decide⟩ (fun _ _ _ => rfl) rfl
theorem al_41 {K : Int → Prop} : aln (PS h s r) 41 K = K 1024 := aln_q (b := 1024) ⟨by decide, by decide⟩ (fun _ _ _ => rfl) (by simp [arrT]) rfl (by decide)
theorem ld_43 {K : Int → Prop} : ldI (PS h s r) 43 .int i K = (0 ≤ i ∧ i < 12 ∧ K (s 43 i)) := ldI_q (b := 12) ⟨by decide, by decide⟩ (fun _ _ _ => rfl) rfl
theorem st_43 {K : az_H → Prop} : stI (PS h s r) 43 .int i x K = (0 ≤ i ∧ i < 12 ∧ K (PS h (uf s 43 i x) r)) := stI_q (b := 12) ⟨by decide, by decide⟩ (fun _ _ _ => rfl) rfl
theorem al_43 {K : Int → Prop} : aln (PS h s r) 43 K = K 12 := aln_q (b := 12) ⟨by decide, by decide⟩ (fun _ _ _ => rfl) (by simp [arrT]) rfl (by decide)
theorem ld_46 {K : Int → Prop} : ldI (PS h s r) 46 .int i K = (0 ≤ i ∧ i < 96 ∧ K (s 46 i)) := ldI_q (b := 96) ⟨by decide, by decide⟩ (fun _ _ _ => rfl) rfl
theorem st_46 {K : az_H → Prop} : stI (PS h s r) 46 .int i x K = (0 ≤ i ∧ i < 96 ∧ K (PS h (uf s 46 i x) r)) := stI_q (b := 96) ⟨by decide, by decide⟩ (fun _ _ _ => rfl) rfl
theorem al_46 {K : Int → Prop} : aln (PS h s r) 46 K = K 96 := aln_q (b := 96) ⟨by decide, by decide⟩ (fun _ _ _ => rfl) (by simp [arrT]) rfl (by decide)
theorem ld_47 {K : Int → Prop} : ldI (PS h s r) 47 .int i K = (0 ≤ i ∧ i < 8 ∧ K (s 47 i)) := ldI_q (b := 8) ⟨by decide, by decide⟩ (fun _ _ _ => rfl) rfl
theorem st_47 {K : az_H → Prop} : stI (PS h s r) 47 .int i x K = (0 ≤ i ∧ i < 8 ∧ K (PS h (uf s 47 i x) r)) := stI_q (b := 8) ⟨by decide, by decide⟩ (fun _ _ _ => rfl) rfl
theorem al_47 {K : Int → Prop} : aln (PS h s r) 47 K = K 8 := aln_q (b := 8) ⟨by decide, by decide⟩ (fun _ _ _ => rfl) (by simp [arrT]) rfl (by decide)
theorem ld_49 {K : Int → Prop} : ldI (PS h s r) 49 .int i K = (0 ≤ i ∧ i < 240 ∧ K (s 49 i)) := ldI_q (b := 240) ⟨by decide, by decide⟩ (fun _ _ _ => rfl) rfl
theorem st_49 {K : az_H → Prop} : stI (PS h s r) 49 .int i x K = (0 ≤ i ∧ i < 240 ∧ K (PS h (uf s 49 i x) r)) := stI_q (b := 240) ⟨by decide, by decide⟩ (fun _ _ _ => rfl) rfl
theorem al_49 {K : Int → Prop} : aln (PS h s r) 49 K = K 240 := aln_q (b := 240) ⟨by decide, by decide⟩ (fun _ _ _ => rfl) (by simp [arrT]) rfl (by decide)
theorem ld_50 {K : Int → Prop} : ldI (PS h s r) 50 .int i K = (0 ≤ i ∧ i < 20 ∧ K (s 50 i)) := ldI_q (b := 20) ⟨by decide, by decide⟩ (fun _ _ _ => rfl) rfl
theorem st_50 {K : az_H → Prop} : stI (PS h s r) 50 .int i x K = (0 ≤ i ∧ i < 20 ∧ K (PS h (uf s 50 i x) r)) := stI_q (b := 20) ⟨by decide, by decide⟩ (fun _ _ _ => rfl) rfl
theorem al_50 {K : Int → Prop} : aln (PS h s r) 50 K = K 20 := aln_q (b := 20) ⟨by decide, by decide⟩ (fun _ _ _ => rfl) (by simp [arrT]) rfl (by decide)
theorem ld_52 {K : Int → Prop} : ldI (PS h s r) 52 .int i K = (0 ≤ i ∧ i < 12 ∧ K (s 52 i)) := ldI_q (b := 12) ⟨by decide, by decide⟩ (fun _ _ _ => rfl) rfl
theorem st_52 {K : az_H → Prop} : stI (PS h s r) 52 .int i x K = (0 ≤ i ∧ i < 12 ∧ K (PS h (uf s 52 i x) r)) := stI_q (b := 12) ⟨by decide, by decide⟩ (fun _ _ _ => rfl) rfl
theorem al_52 {K : Int → Prop} : aln (PS h s r) 52 K = K 12 := aln_q (b := 12) ⟨by decide, by decide⟩ (fun _ _ _ => rfl) (by simp [arrT]) rfl (by decide)
theorem ld_53 {K : Int → Prop} : ldI (PS h s r) 53 .int i K = (0 ≤ i ∧ i < 19 ∧ K (s 53 i)) := ldI_q (b := 19) ⟨by decide, by decide⟩ (fun _ _ _ => rfl) rfl
theorem st_53 {K : az_H → Prop} : stI (PS h s r) 53 .int i x K = (0 ≤ i ∧ i < 19 ∧ K (PS h (uf s 53 i x) r)) := stI_q (b := 19) ⟨by decide, by decide⟩ (fun _ _ _ => rfl) rfl
theorem al_53 {K : Int → Prop} : aln (PS h s r) 53 K = K 19 := aln_q (b := 19) ⟨by decide, by decide⟩ (fun _ _ _ => rfl) (by simp [arrT]) rfl (by decide)
theorem ld_55 {K : Int → Prop} : ldI (PS h s r) 55 .int i K = (0 ≤ i ∧ i < 208 ∧ K (s 55 i)) := ldI_q (b := 208) ⟨by decide, by decide⟩ (fun _ _ _ => rfl) rfl
theorem st_55 {K : az_H → Prop} : stI (PS h s r) 55 .int i x K = (0 ≤ i ∧ i < 208 ∧ K (PS h (uf s 55 i x) r)) := stI_q (b := 208) ⟨by decide, by decide⟩ (fun _ _ _ => rfl) rfl
theorem al_55 {K : Int → Prop} : aln (PS h s r) 55 K = K 208 := aln_q (b := 208) ⟨by decide, by decide⟩ (fun _ _ _ => rfl) (by simp [arrT]) rfl (by decide)
theorem ld_56 {K : Int → Prop} : ldI (PS h s r) 56 .int i K = (0 ≤ i ∧ i < 4500 ∧ K (s 56 i)) := ldI_q (b := 4500) ⟨by decide, by decide⟩ (fun _ _ _ => rfl) rfl
theorem st_56 {K : az_H → Prop} : stI (PS h s r) 56 .int i x K = (0 ≤ i ∧ i < 4500 ∧ K (PS h (uf s 56 i x) r)) := stI_q (b := 4500) ⟨by decide, by decide⟩ (fun _ _ _ => rfl) rfl
theorem al_56 {K : Int → Prop} : aln (PS h s r) 56 K = K 4500 := aln_q (b := 4500) ⟨by decide, by decide⟩ (fun _ _ _ => rfl) (by simp [arrT]) rfl (by decide)
theorem ld_57 {K : Int → Prop} : ldI (PS h s r) 57 .int i K = (0 ≤ i ∧ i < 4500 ∧ K (s 57 i)) := ldI_q (b := 4500) ⟨by decide, by decide⟩ (fun _ _ _ => rfl) rfl
theorem st_57 {K : az_H → Prop} : stI (PS h s r) 57 .int i x K = (0 ≤ i ∧ i < 4500 ∧ K (PS h (uf s 57 i x) r)) := stI_q (b := 4500) ⟨by decide, by decide⟩ (fun _ _ _ => rfl) rfl
theorem al_57 {K : Int → Prop} : aln (PS h s r) 57 K = K 4500 := aln_q (b := 4500) ⟨by decide, by decide⟩ (fun _ _ _ => rfl) (by simp [arrT]) rfl (by decide)
theorem ld_58 {K : Int → Prop} : ldI (PS h s r) 58 .int i K = (0 ≤ i ∧ i < 4500 ∧ K (s 58 i)) := ldI_q (b := 4500) ⟨by decide, by decide⟩ (fun _ _ _ => rfl) rfl
theorem st_58 {K : az_H → Prop} : stI (PS h s r) 58 .int i x K = (0 ≤ i ∧ i < 4500 ∧ K (PS h (uf s 58 i x) r)) := stI_q (b := 4500) ⟨by decide, by decide⟩ (fun _ _ _ => rfl) rfl
theorem al_58 {K : Int → Prop} : aln (PS h s r) 58 K = K 4500 := aln_q (b := 4500) ⟨by decide, by decide⟩ (fun _ _ _ => rfl) (by simp [arrT]) rfl (by decide)
theorem ld_59 {K : Int → Prop} : ldI (PS h s r) 59 .int i K = (0 ≤ i ∧ i < 15 ∧ K (s 59 i)) := ldI_q (b := 15) ⟨by decide, by decide⟩ (fun _ _ _ => rfl) rfl
theorem st_59 {K : az_H → Prop} : stI (PS h s r) 59 .int i x K = (0 ≤ i ∧ i < 15 ∧ K (PS h (uf s 59 i x) r)) := stI_q (b := 15) ⟨by decide, by decide⟩ (fun _ _ _ => rfl) rfl
theorem al_59 {K : Int → Prop} : aln (PS h s r) 59 K = K 15 := aln_q (b := 15) ⟨by decide, by decide⟩ (fun _ _ _ => rfl) (by simp [arrT]) rfl (by decide)
theorem ld_60 {K : Int → Prop} : ldI (PS h s r) 60 .int i K = (0 ≤ i ∧ i < 6 ∧ K (s 60 i)) := ldI_q (b := 6) ⟨by decide, by decide⟩ (fun _ _ _ => rfl) rfl
theorem st_60 {K : az_H → Prop} : stI (PS h s r) 60 .int i x K = (0 ≤ i ∧ i < 6 ∧ K (PS h (uf s 60 i x) r)) := stI_q (b := 6) ⟨by decide, by decide⟩ (fun _ _ _ => rfl) rfl
theorem al_60 {K : Int → Prop} : aln (PS h s r) 60 K = K 6 := aln_q (b := 6) ⟨by decide, by decide⟩ (fun _ _ _ => rfl) (by simp [arrT]) rfl (by decide)
theorem ld_61 {K : Int → Prop} : ldI (PS h s r) 61 .boolean i K = (0 ≤ i ∧ i < 6 ∧ K (s 61 i)) := ldI_q (b := 6) ⟨by decide, by decide⟩ (fun _ _ _ => rfl) rfl
theorem st_61 {K : az_H → Prop} : stI (PS h s r) 61 .boolean i x K = (0 ≤ i ∧ i < 6 ∧ K (PS h (uf s 61 i x) r)) := stI_q (b := 6) ⟨by decide, by decide⟩ (fun _ _ _ => rfl) rfl
theorem ld_62 {K : Int → Prop} : ldI (PS h s r) 62 .int i K = (0 ≤ i ∧ i < 300 ∧ K (s 62 i)) := ldI_q (b := 300) ⟨by decide, by decide⟩ (fun _ _ _ => rfl) rfl
theorem st_62 {K : az_H → Prop} : stI (PS h s r) 62 .int i x K = (0 ≤ i ∧ i < 300 ∧ K (PS h (uf s 62 i x) r)) := stI_q (b := 300) ⟨by decide, by decide⟩ (fun _ _ _ => rfl) rfl
theorem al_62 {K : Int → Prop} : aln (PS h s r) 62 K = K 300 := aln_q (b := 300) ⟨by decide, by decide⟩ (fun _ _ _ => rfl) (by simp [arrT]) rfl (by decide)
theorem ld_63 {K : Int → Prop} : ldI (PS h s r) 63 .int i K = (0 ≤ i ∧ i < 6 ∧ K (s 63 i)) := ldI_q (b := 6) ⟨by decide, by decide⟩ (fun _ _ _ => rfl) rfl
theorem st_63 {K : az_H → Prop} : stI (PS h s r) 63 .int i x K = (0 ≤ i ∧ i < 6 ∧ K (PS h (uf s 63 i x) r)) := stI_q (b := 6) ⟨by decide, by decide⟩ (fun _ _ _ => rfl) rfl
theorem al_63 {K : Int → Prop} : aln (PS h s r) 63 K = K 6 := aln_q (b := 6) ⟨by decide, by decide⟩ (fun _ _ _ => rfl) (by simp [arrT]) rfl (by decide)
theorem ld_64 {K : Int → Prop} : ldI (PS h s r) 64 .int i K = (0 ≤ i ∧ i < 19 ∧ K (s 64 i)) := ldI_q (b := 19) ⟨by decide, by decide⟩ (fun _ _ _ => rfl) rfl
theorem st_64 {K : az_H → Prop} : stI (PS h s r) 64 .int i x K = (0 ≤ i ∧ i < 19 ∧ K (PS h (uf s 64 i x) r)) := stI_q (b := 19) ⟨by decide, by decide⟩ (fun _ _ _ => rfl) rfl
theorem al_64 {K : Int → Prop} : aln (PS h s r) 64 K = K 19 := aln_q (b := 19) ⟨by decide, by decide⟩ (fun _ _ _ => rfl) (by simp [arrT]) rfl (by decide)
theorem ld_65 {K : Int → Prop} : ldI (PS h s r) 65 .int i K = (0 ≤ i ∧ i < 19 ∧ K (s 65 i)) := ldI_q (b := 19) ⟨by decide, by decide⟩ (fun _ _ _ => rfl) rfl
theorem st_65 {K : az_H → Prop} : stI (PS h s r) 65 .int i x K = (0 ≤ i ∧ i < 19 ∧ K (PS h (uf s 65 i x) r)) := stI_q (b := 19) ⟨by decide, by decide⟩ (fun _ _ _ => rfl) rfl
theorem al_65 {K : Int → Prop} : aln (PS h s r) 65 K = K 19 := aln_q (b := 19) ⟨by decide, by decide⟩ (fun _ _ _ => rfl) (by simp [arrT]) rfl (by decide)
theorem ld_66 {K : Int → Prop} : ldI (PS h s r) 66 .int i K = (0 ≤ i ∧ i < 4 ∧ K (s 66 i)) := ldI_q (b := 4) ⟨by decide, by decide⟩ (fun _ _ _ => rfl) rfl
theorem st_66 {K : az_H → Prop} : stI (PS h s r) 66 .int i x K = (0 ≤ i ∧ i < 4 ∧ K (PS h (uf s 66 i x) r)) := stI_q (b := 4) ⟨by decide, by decide⟩ (fun _ _ _ => rfl) rfl
theorem al_66 {K : Int → Prop} : aln (PS h s r) 66 K = K 4 := aln_q (b := 4) ⟨by decide, by decide⟩ (fun _ _ _ => rfl) (by simp [arrT]) rfl (by decide)
theorem ld_67 {K : Int → Prop} : ldI (PS h s r) 67 .int i K = (0 ≤ i ∧ i < 4 ∧ K (s 67 i)) := ldI_q (b := 4) ⟨by decide, by decide⟩ (fun _ _ _ => rfl) rfl
theorem st_67 {K : az_H → Prop} : stI (PS h s r) 67 .int i x K = (0 ≤ i ∧ i < 4 ∧ K (PS h (uf s 67 i x) r)) := stI_q (b := 4) ⟨by decide, by decide⟩ (fun _ _ _ => rfl) rfl
theorem al_67 {K : Int → Prop} : aln (PS h s r) 67 K = K 4 := aln_q (b := 4) ⟨by decide, by decide⟩ (fun _ _ _ => rfl) (by simp [arrT]) rfl (by decide)
theorem ld_68 {K : Int → Prop} : ldI (PS h s r) 68 .int i K = (0 ≤ i ∧ i < 4 ∧ K (s 68 i)) := ldI_q (b := 4) ⟨by decide, by decide⟩ (fun _ _ _ => rfl) rfl
theorem st_68 {K : az_H → Prop} : stI (PS h s r) 68 .int i x K = (0 ≤ i ∧ i < 4 ∧ K (PS h (uf s 68 i x) r)) := stI_q (b := 4) ⟨by decide, by decide⟩ (fun _ _ _ => rfl) rfl
theorem al_68 {K : Int → Prop} : aln (PS h s r) 68 K = K 4 := aln_q (b := 4) ⟨by decide, by decide⟩ (fun _ _ _ => rfl) (by simp [arrT]) rfl (by decide)
theorem ld_69 {K : Int → Prop} : ldI (PS h s r) 69 .boolean i K = (0 ≤ i ∧ i < 144 ∧ K (s 69 i)) := ldI_q (b := 144) ⟨by decide, by decide⟩ (fun _ _ _ => rfl) rfl
theorem st_69 {K : az_H → Prop} : stI (PS h s r) 69 .boolean i x K = (0 ≤ i ∧ i < 144 ∧ K (PS h (uf s 69 i x) r)) := stI_q (b := 144) ⟨by decide, by decide⟩ (fun _ _ _ => rfl) rfl
theorem ld_70 {K : Int → Prop} : ldI (PS h s r) 70 .int i K = (0 ≤ i ∧ i < 300 ∧ K (s 70 i)) := ldI_q (b := 300) ⟨by decide, by decide⟩ (fun _ _ _ => rfl) rfl
theorem st_70 {K : az_H → Prop} : stI (PS h s r) 70 .int i x K = (0 ≤ i ∧ i < 300 ∧ K (PS h (uf s 70 i x) r)) := stI_q (b := 300) ⟨by decide, by decide⟩ (fun _ _ _ => rfl) rfl
theorem al_70 {K : Int → Prop} : aln (PS h s r) 70 K = K 300 := aln_q (b := 300) ⟨by decide, by decide⟩ (fun _ _ _ => rfl) (by simp [arrT]) rfl (by decide)
theorem ld_71 {K : Int → Prop} : ldI (PS h s r) 71 .int i K = (0 ≤ i ∧ i < 3 ∧ K (s 71 i)) := ldI_q (b := 3) ⟨by decide, by decide⟩ (fun _ _ _ => rfl) rfl
theorem st_71 {K : az_H → Prop} : stI (PS h s r) 71 .int i x K = (0 ≤ i ∧ i < 3 ∧ K (PS h (uf s 71 i x) r)) := stI_q (b := 3) ⟨by decide, by decide⟩ (fun _ _ _ => rfl) rfl
theorem al_71 {K : Int → Prop} : aln (PS h s r) 71 K = K 3 := aln_q (b := 3) ⟨by decide, by decide⟩ (fun _ _ _ => rfl) (by simp [arrT]) rfl (by decide)
theorem ld_72 {K : Int → Prop} : ldI (PS h s r) 72 .int i K = (0 ≤ i ∧ i < 3 ∧ K (s 72 i)) := ldI_q (b := 3) ⟨by decide, by decide⟩ (fun _ _ _ => rfl) rfl
theorem st_72 {K : az_H → Prop} : stI (PS h s r) 72 .int i x K = (0 ≤ i ∧ i < 3 ∧ K (PS h (uf s 72 i x) r)) := stI_q (b := 3) ⟨by decide, by decide⟩ (fun _ _ _ => rfl) rfl
theorem al_72 {K : Int → Prop} : aln (PS h s r) 72 K = K 3 := aln_q (b := 3) ⟨by decide, by decide⟩ (fun _ _ _ => rfl) (by simp [arrT]) rfl (by decide)
theorem ld_73 {K : Int → Prop} : ldI (PS h s r) 73 .int i K = (0 ≤ i ∧ i < 3 ∧ K (s 73 i)) := ldI_q (b := 3) ⟨by decide, by decide⟩ (fun _ _ _ => rfl) rfl
theorem st_73 {K : az_H → Prop} : stI (PS h s r) 73 .int i x K = (0 ≤ i ∧ i < 3 ∧ K (PS h (uf s 73 i x) r)) := stI_q (b := 3) ⟨by decide, by decide⟩ (fun _ _ _ => rfl) rfl
theorem al_73 {K : Int → Prop} : aln (PS h s r) 73 K = K 3 := aln_q (b := 3) ⟨by decide, by decide⟩ (fun _ _ _ => rfl) (by simp [arrT]) rfl (by decide)
theorem ld_74 {K : Int → Prop} : ldI (PS h s r) 74 .int i K = (0 ≤ i ∧ i < 3 ∧ K (s 74 i)) := ldI_q (b := 3) ⟨by decide, by decide⟩ (fun _ _ _ => rfl) rfl
theorem st_74 {K : az_H → Prop} : stI (PS h s r) 74 .int i x K = (0 ≤ i ∧ i < 3 ∧ K (PS h (uf s 74 i x) r)) := stI_q (b := 3) ⟨by decide, by decide⟩ (fun _ _ _ => rfl) rfl
theorem al_74 {K : Int → Prop} : aln (PS h s r) 74 K = K 3 := aln_q (b := 3) ⟨by decide, by decide⟩ (fun _ _ _ => rfl) (by simp [arrT]) rfl (by decide)
theorem ld_75 {K : Int → Prop} : ldI (PS h s r) 75 .int i K = (0 ≤ i ∧ i < 57 ∧ K (s 75 i)) := ldI_q (b := 57) ⟨by decide, by decide⟩ (fun _ _ _ => rfl) rfl
theorem st_75 {K : az_H → Prop} : stI (PS h s r) 75 .int i x K = (0 ≤ i ∧ i < 57 ∧ K (PS h (uf s 75 i x) r)) := stI_q (b := 57) ⟨by decide, by decide⟩ (fun _ _ _ => rfl) rfl
theorem al_75 {K : Int → Prop} : aln (PS h s r) 75 K = K 57 := aln_q (b := 57) ⟨by decide, by decide⟩ (fun _ _ _ => rfl) (by simp [arrT]) rfl (by decide)
theorem ld_76 {K : Int → Prop} : ldI (PS h s r) 76 .int i K = (0 ≤ i ∧ i < 30 ∧ K (s 76 i)) := ldI_q (b := 30) ⟨by decide, by decide⟩ (fun _ _ _ => rfl) rfl
theorem st_76 {K : az_H → Prop} : stI (PS h s r) 76 .int i x K = (0 ≤ i ∧ i < 30 ∧ K (PS h (uf s 76 i x) r)) := stI_q (b := 30) ⟨by decide, by decide⟩ (fun _ _ _ => rfl) rfl
theorem al_76 {K : Int → Prop} : aln (PS h s r) 76 K = K 30 := aln_q (b := 30) ⟨by decide, by decide⟩ (fun _ _ _ => rfl) (by simp [arrT]) rfl (by decide)
theorem ld_77 {K : Int → Prop} : ldI (PS h s r) 77 .int i K = (0 ≤ i ∧ i < 30 ∧ K (s 77 i)) := ldI_q (b := 30) ⟨by decide, by decide⟩ (fun _ _ _ => rfl) rfl
theorem st_77 {K : az_H → Prop} : stI (PS h s r) 77 .int i x K = (0 ≤ i ∧ i < 30 ∧ K (PS h (uf s 77 i x) r)) := stI_q (b := 30) ⟨by decide, by decide⟩ (fun _ _ _ => rfl) rfl
theorem al_77 {K : Int → Prop} : aln (PS h s r) 77 K = K 30 := aln_q (b := 30) ⟨by decide, by decide⟩ (fun _ _ _ => rfl) (by simp [arrT]) rfl (by decide)
theorem ld_78 {K : Int → Prop} : ldI (PS h s r) 78 .int i K = (0 ≤ i ∧ i < 30 ∧ K (s 78 i)) := ldI_q (b := 30) ⟨by decide, by decide⟩ (fun _ _ _ => rfl) rfl
theorem st_78 {K : az_H → Prop} : stI (PS h s r) 78 .int i x K = (0 ≤ i ∧ i < 30 ∧ K (PS h (uf s 78 i x) r)) := stI_q (b := 30) ⟨by decide, by decide⟩ (fun _ _ _ => rfl) rfl
theorem al_78 {K : Int → Prop} : aln (PS h s r) 78 K = K 30 := aln_q (b := 30) ⟨by decide, by decide⟩ (fun _ _ _ => rfl) (by simp [arrT]) rfl (by decide)
theorem ld_79 {K : Int → Prop} : ldI (PS h s r) 79 .int i K = (0 ≤ i ∧ i < 30 ∧ K (s 79 i)) := ldI_q (b := 30) ⟨by decide, by decide⟩ (fun _ _ _ => rfl) rfl
theorem st_79 {K : az_H → Prop} : stI (PS h s r) 79 .int i x K = (0 ≤ i ∧ i < 30 ∧ K (PS h (uf s 79 i x) r)) := stI_q (b := 30) ⟨by decide, by decide⟩ (fun _ _ _ => rfl) rfl
theorem al_79 {K : Int → Prop} : aln (PS h s r) 79 K = K 30 := aln_q (b := 30) ⟨by decide, by decide⟩ (fun _ _ _ => rfl) (by simp [arrT]) rfl (by decide)
theorem ld_80 {K : Int → Prop} : ldI (PS h s r) 80 .int i K = (0 ≤ i ∧ i < 20 ∧ K (s 80 i)) := ldI_q (b := 20) ⟨by decide, by decide⟩ (fun _ _ _ => rfl) rfl
theorem st_80 {K : az_H → Prop} : stI (PS h s r) 80 .int i x K = (0 ≤ i ∧ i < 20 ∧ K (PS h (uf s 80 i x) r)) := stI_q (b := 20) ⟨by decide, by decide⟩ (fun _ _ _ => rfl) rfl
theorem al_80 {K : Int → Prop} : aln (PS h s r) 80 K = K 20 := aln_q (b := 20) ⟨by decide, by decide⟩ (fun _ _ _ => rfl) (by simp [arrT]) rfl (by decide)
theorem ld_81 {K : Int → Prop} : ldI (PS h s r) 81 .int i K = (0 ≤ i ∧ i < 240 ∧ K (s 81 i)) := ldI_q (b := 240) ⟨by decide, by decide⟩ (fun _ _ _ => rfl) rfl
theorem st_81 {K : az_H → Prop} : stI (PS h s r) 81 .int i x K = (0 ≤ i ∧ i < 240 ∧ K (PS h (uf s 81 i x) r)) := stI_q (b := 240) ⟨by decide, by decide⟩ (fun _ _ _ => rfl) rfl
theorem al_81 {K : Int → Prop} : aln (PS h s r) 81 K = K 240 := aln_q (b := 240) ⟨by decide, by decide⟩ (fun _ _ _ => rfl) (by simp [arrT]) rfl (by decide)
theorem ld_82 {K : Int → Prop} : ldI (PS h s r) 82 .int i K = (0 ≤ i ∧ i < 12 ∧ K (s 82 i)) := ldI_q (b := 12) ⟨by decide, by decide⟩ (fun _ _ _ => rfl) rfl
theorem st_82 {K : az_H → Prop} : stI (PS h s r) 82 .int i x K = (0 ≤ i ∧ i < 12 ∧ K (PS h (uf s 82 i x) r)) := stI_q (b := 12) ⟨by decide, by decide⟩ (fun _ _ _ => rfl) rfl
theorem al_82 {K : Int → Prop} : aln (PS h s r) 82 K = K 12 := aln_q (b := 12) ⟨by decide, by decide⟩ (fun _ _ _ => rfl) (by simp [arrT]) rfl (by decide)
theorem ld_83 {K : Int → Prop} : ldI (PS h s r) 83 .int i K = (0 ≤ i ∧ i < 8 ∧ K (s 83 i)) := ldI_q (b := 8) ⟨by decide, by decide⟩ (fun _ _ _ => rfl) rfl
theorem st_83 {K : az_H → Prop} : stI (PS h s r) 83 .int i x K = (0 ≤ i ∧ i < 8 ∧ K (PS h (uf s 83 i x) r)) := stI_q (b := 8) ⟨by decide, by decide⟩ (fun _ _ _ => rfl) rfl
theorem al_83 {K : Int → Prop} : aln (PS h s r) 83 K = K 8 := aln_q (b := 8) ⟨by decide, by decide⟩ (fun _ _ _ => rfl) (by simp [arrT]) rfl (by decide)
theorem ld_84 {K : Int → Prop} : ldI (PS h s r) 84 .int i K = (0 ≤ i ∧ i < 96 ∧ K (s 84 i)) := ldI_q (b := 96) ⟨by decide, by decide⟩ (fun _ _ _ => rfl) rfl
theorem st_84 {K : az_H → Prop} : stI (PS h s r) 84 .int i x K = (0 ≤ i ∧ i < 96 ∧ K (PS h (uf s 84 i x) r)) := stI_q (b := 96) ⟨by decide, by decide⟩ (fun _ _ _ => rfl) rfl
theorem al_84 {K : Int → Prop} : aln (PS h s r) 84 K = K 96 := aln_q (b := 96) ⟨by decide, by decide⟩ (fun _ _ _ => rfl) (by simp [arrT]) rfl (by decide)
theorem ld_85 {K : Int → Prop} : ldI (PS h s r) 85 .int i K = (0 ≤ i ∧ i < 7619 ∧ K (s 85 i)) := ldI_q (b := 7619) ⟨by decide, by decide⟩ (fun _ _ _ => rfl) rfl
theorem st_85 {K : az_H → Prop} : stI (PS h s r) 85 .int i x K = (0 ≤ i ∧ i < 7619 ∧ K (PS h (uf s 85 i x) r)) := stI_q (b := 7619) ⟨by decide, by decide⟩ (fun _ _ _ => rfl) rfl
theorem al_85 {K : Int → Prop} : aln (PS h s r) 85 K = K 7619 := aln_q (b := 7619) ⟨by decide, by decide⟩ (fun _ _ _ => rfl) (by simp [arrT]) rfl (by decide)
theorem ld_86 {K : Int → Prop} : ldI (PS h s r) 86 .int i K = (0 ≤ i ∧ i < 401 ∧ K (s 86 i)) := ldI_q (b := 401) ⟨by decide, by decide⟩ (fun _ _ _ => rfl) rfl
theorem st_86 {K : az_H → Prop} : stI (PS h s r) 86 .int i x K = (0 ≤ i ∧ i < 401 ∧ K (PS h (uf s 86 i x) r)) := stI_q (b := 401) ⟨by decide, by decide⟩ (fun _ _ _ => rfl) rfl
theorem al_86 {K : Int → Prop} : aln (PS h s r) 86 K = K 401 := aln_q (b := 401) ⟨by decide, by decide⟩ (fun _ _ _ => rfl) (by simp [arrT]) rfl (by decide)
theorem ld_87 {K : Int → Prop} : ldI (PS h s r) 87 .int i K = (0 ≤ i ∧ i < 401 ∧ K (s 87 i)) := ldI_q (b := 401) ⟨by decide, by decide⟩ (fun _ _ _ => rfl) rfl
theorem st_87 {K : az_H → Prop} : stI (PS h s r) 87 .int i x K = (0 ≤ i ∧ i < 401 ∧ K (PS h (uf s 87 i x) r)) := stI_q (b := 401) ⟨by decide, by decide⟩ (fun _ _ _ => rfl) rfl
theorem al_87 {K : Int → Prop} : aln (PS h s r) 87 K = K 401 := aln_q (b := 401) ⟨by decide, by decide⟩ (fun _ _ _ => rfl) (by simp [arrT]) rfl (by decide)
theorem ld_88 {K : Int → Prop} : ldI (PS h s r) 88 .int i K = (0 ≤ i ∧ i < 401 ∧ K (s 88 i)) := ldI_q (b := 401) ⟨by decide, by decide⟩ (fun _ _ _ => rfl) rfl
theorem st_88 {K : az_H → Prop} : stI (PS h s r) 88 .int i x K = (0 ≤ i ∧ i < 401 ∧ K (PS h (uf s 88 i x) r)) := stI_q (b := 401) ⟨by decide, by decide⟩ (fun _ _ _ => rfl) rfl
theorem al_88 {K : Int → Prop} : aln (PS h s r) 88 K = K 401 := aln_q (b := 401) ⟨by decide, by decide⟩ (fun _ _ _ => rfl) (by simp [arrT]) rfl (by decide)
theorem lr_23 {K : Option Nat → Prop} : ldR (PS h s r) 23 (.object "InvariantSearch$Code") i K = (0 ≤ i ∧ i < 6 ∧ K (r 23 i)) := ldR_q (b := 6) ⟨by decide, by decide⟩ (fun _ _ _ => rfl) rfl
theorem sr_23 {q : Option Nat} {K : az_H → Prop} : stR (PS h s r) 23 "InvariantSearch$Code" 1 i q K = ((∀ c, q = some c → ∃ fs, (PS h s r).1 c = cO 1 fs) ∧ 0 ≤ i ∧ i < 6 ∧ K (PS h s (uq r 23 i q))) := stR_q (b := 6) ⟨by decide, by decide⟩ (fun _ _ _ => rfl) rfl
theorem lr_26 {K : Option Nat → Prop} : ldR (PS h s r) 26 (.object "InvariantSearch$Call") i K = (0 ≤ i ∧ i < 4 ∧ K (r 26 i)) := ldR_q (b := 4) ⟨by decide, by decide⟩ (fun _ _ _ => rfl) rfl
theorem sr_26 {q : Option Nat} {K : az_H → Prop} : stR (PS h s r) 26 "InvariantSearch$Call" 0 i q K = ((∀ c, q = some c → ∃ fs, (PS h s r).1 c = cO 0 fs) ∧ 0 ≤ i ∧ i < 4 ∧ K (PS h s (uq r 26 i q))) := stR_q (b := 4) ⟨by decide, by decide⟩ (fun _ _ _ => rfl) rfl
theorem lr_42 {K : Option Nat → Prop} : ldR (PS h s r) 42 (.object "InvariantSearch$Call") i K = (0 ≤ i ∧ i < 30 ∧ K (r 42 i)) := ldR_q (b := 30) ⟨by decide, by decide⟩ (fun _ _ _ => rfl) rfl
theorem sr_42 {q : Option Nat} {K : az_H → Prop} : stR (PS h s r) 42 "InvariantSearch$Call" 0 i q K = ((∀ c, q = some c → ∃ fs, (PS h s r).1 c = cO 0 fs) ∧ 0 ≤ i ∧ i < 30 ∧ K (PS h s (uq r 42 i q))) := stR_q (b := 30) ⟨by decide, by decide⟩ (fun _ _ _ => rfl) rfl
theorem lr_51 {K : Option Nat → Prop} : ldR (PS h s r) 51 (.object "InvariantSearch$Code") i K = (0 ≤ i ∧ i < 8 ∧ K (r 51 i)) := ldR_q (b := 8) ⟨by decide, by decide⟩ (fun _ _ _ => rfl) rfl
theorem sr_51 {q : Option Nat} {K : az_H → Prop} : stR (PS h s r) 51 "InvariantSearch$Code" 1 i q K = ((∀ c, q = some c → ∃ fs, (PS h s r).1 c = cO 1 fs) ∧ 0 ≤ i ∧ i < 8 ∧ K (PS h s (uq r 51 i q))) := stR_q (b := 8) ⟨by decide, by decide⟩ (fun _ _ _ => rfl) rfl
theorem cp_52_46 {sp dp n : Int} {K : az_H → Prop} : acp (PS h s r) 52 46 sp dp n K = (0 ≤ sp ∧ 0 ≤ dp ∧ 0 ≤ n ∧ sp + n ≤ 12 ∧ dp + n ≤ 96 ∧ K (PS h (up s 46 (cps (s 52) (s 46) sp dp n)) r)) := acp_q (b0 := 12) (b := 96) ⟨by decide, by decide⟩ ⟨by decide, by decide⟩ (fun _ _ _ => rfl) (fun _ _ _ => rfl) rfl rfl
theorem cp_52_49 {sp dp n : Int} {K : az_H → Prop} : acp (PS h s r) 52 49 sp dp n K = (0 ≤ sp ∧ 0 ≤ dp ∧ 0 ≤ n ∧ sp + n ≤ 12 ∧ dp + n ≤ 240 ∧ K (PS h (up s 49 (cps (s 52) (s 49) sp dp n)) r)) := acp_q (b0 := 12) (b := 240) ⟨by decide, by decide⟩ ⟨by decide, by decide⟩ (fun _ _ _ => rfl) (fun _ _ _ => rfl) rfl rfl
theorem cp_46_52 {sp dp n : Int} {K : az_H → Prop} : acp (PS h s r) 46 52 sp dp n K = (0 ≤ sp ∧ 0 ≤ dp ∧ 0 ≤ n ∧ sp + n ≤ 96 ∧ dp + n ≤ 12 ∧ K (PS h (up s 52 (cps (s 46) (s 52) sp dp n)) r)) := acp_q (b0 := 96) (b := 12) ⟨by decide, by decide⟩ ⟨by decide, by decide⟩ (fun _ _ _ => rfl) (fun _ _ _ => rfl) rfl rfl
theorem cp_49_52 {sp dp n : Int} {K : az_H → Prop} : acp (PS h s r) 49 52 sp dp n K = (0 ≤ sp ∧ 0 ≤ dp ∧ 0 ≤ n ∧ sp + n ≤ 240 ∧ dp + n ≤ 12 ∧ K (PS h (up s 52 (cps (s 49) (s 52) sp dp n)) r)) := acp_q (b0 := 240) (b := 12) ⟨by decide, by decide⟩ ⟨by decide, by decide⟩ (fun _ _ _ => rfl) (fun _ _ _ => rfl) rfl rfl
theorem cp_53_29 {sp dp n : Int} {K : az_H → Prop} : acp (PS h s r) 53 29 sp dp n K = (0 ≤ sp ∧ 0 ≤ dp ∧ 0 ≤ n ∧ sp + n ≤ 19 ∧ dp + n ≤ 19 ∧ K (PS h (up s 29 (cps (s 53) (s 29) sp dp n)) r)) := acp_q (b0 := 19) (b := 19) ⟨by decide, by decide⟩ ⟨by decide, by decide⟩ (fun _ _ _ => rfl) (fun _ _ _ => rfl) rfl rfl
theorem cp_37_29 {sp dp n : Int} {K : az_H → Prop} : acp (PS h s r) 37 29 sp dp n K = (0 ≤ sp ∧ 0 ≤ dp ∧ 0 ≤ n ∧ sp + n ≤ 7600 ∧ dp + n ≤ 19 ∧ K (PS h (up s 29 (cps (s 37) (s 29) sp dp n)) r)) := acp_q (b0 := 7600) (b := 19) ⟨by decide, by decide⟩ ⟨by decide, by decide⟩ (fun _ _ _ => rfl) (fun _ _ _ => rfl) rfl rfl
theorem cp_29_53 {sp dp n : Int} {K : az_H → Prop} : acp (PS h s r) 29 53 sp dp n K = (0 ≤ sp ∧ 0 ≤ dp ∧ 0 ≤ n ∧ sp + n ≤ 19 ∧ dp + n ≤ 19 ∧ K (PS h (up s 53 (cps (s 29) (s 53) sp dp n)) r)) := acp_q (b0 := 19) (b := 19) ⟨by decide, by decide⟩ ⟨by decide, by decide⟩ (fun _ _ _ => rfl) (fun _ _ _ => rfl) rfl rfl
theorem cp_29_37 {sp dp n : Int} {K : az_H → Prop} : acp (PS h s r) 29 37 sp dp n K = (0 ≤ sp ∧ 0 ≤ dp ∧ 0 ≤ n ∧ sp + n ≤ 19 ∧ dp + n ≤ 7600 ∧ K (PS h (up s 37 (cps (s 29) (s 37) sp dp n)) r)) := acp_q (b0 := 19) (b := 7600) ⟨by decide, by decide⟩ ⟨by decide, by decide⟩ (fun _ _ _ => rfl) (fun _ _ _ => rfl) rfl rfl
theorem cp_29_31 {sp dp n : Int} {K : az_H → Prop} : acp (PS h s r) 29 31 sp dp n K = (0 ≤ sp ∧ 0 ≤ dp ∧ 0 ≤ n ∧ sp + n ≤ 19 ∧ dp + n ≤ 19 ∧ K (PS h (up s 31 (cps (s 29) (s 31) sp dp n)) r)) := acp_q (b0 := 19) (b := 19) ⟨by decide, by decide⟩ ⟨by decide, by decide⟩ (fun _ _ _ => rfl) (fun _ _ _ => rfl) rfl rfl
theorem cp_29_32 {sp dp n : Int} {K : az_H → Prop} : acp (PS h s r) 29 32 sp dp n K = (0 ≤ sp ∧ 0 ≤ dp ∧ 0 ≤ n ∧ sp + n ≤ 19 ∧ dp + n ≤ 19 ∧ K (PS h (up s 32 (cps (s 29) (s 32) sp dp n)) r)) := acp_q (b0 := 19) (b := 19) ⟨by decide, by decide⟩ ⟨by decide, by decide⟩ (fun _ _ _ => rfl) (fun _ _ _ => rfl) rfl rfl
theorem cp_29_33 {sp dp n : Int} {K : az_H → Prop} : acp (PS h s r) 29 33 sp dp n K = (0 ≤ sp ∧ 0 ≤ dp ∧ 0 ≤ n ∧ sp + n ≤ 19 ∧ dp + n ≤ 19 ∧ K (PS h (up s 33 (cps (s 29) (s 33) sp dp n)) r)) := acp_q (b0 := 19) (b := 19) ⟨by decide, by decide⟩ ⟨by decide, by decide⟩ (fun _ _ _ => rfl) (fun _ _ _ => rfl) rfl rfl
theorem cp_31_29 {sp dp n : Int} {K : az_H → Prop} : acp (PS h s r) 31 29 sp dp n K = (0 ≤ sp ∧ 0 ≤ dp ∧ 0 ≤ n ∧ sp + n ≤ 19 ∧ dp + n ≤ 19 ∧ K (PS h (up s 29 (cps (s 31) (s 29) sp dp n)) r)) := acp_q (b0 := 19) (b := 19) ⟨by decide, by decide⟩ ⟨by decide, by decide⟩ (fun _ _ _ => rfl) (fun _ _ _ => rfl) rfl rfl
theorem cp_32_29 {sp dp n : Int} {K : az_H → Prop} : acp (PS h s r) 32 29 sp dp n K = (0 ≤ sp ∧ 0 ≤ dp ∧ 0 ≤ n ∧ sp + n ≤ 19 ∧ dp + n ≤ 19 ∧ K (PS h (up s 29 (cps (s 32) (s 29) sp dp n)) r)) := acp_q (b0 := 19) (b := 19) ⟨by decide, by decide⟩ ⟨by decide, by decide⟩ (fun _ _ _ => rfl) (fun _ _ _ => rfl) rfl rfl
theorem cp_33_29 {sp dp n : Int} {K : az_H → Prop} : acp (PS h s r) 33 29 sp dp n K = (0 ≤ sp ∧ 0 ≤ dp ∧ 0 ≤ n ∧ sp + n ≤ 19 ∧ dp + n ≤ 19 ∧ K (PS h (up s 29 (cps (s 33) (s 29) sp dp n)) r)) := acp_q (b0 := 19) (b := 19) ⟨by decide, by decide⟩ ⟨by decide, by decide⟩ (fun _ _ _ => rfl) (fun _ _ _ => rfl) rfl rfl
theorem cp_52_43 {sp dp n : Int} {K : az_H → Prop} : acp (PS h s r) 52 43 sp dp n K = (0 ≤ sp ∧ 0 ≤ dp ∧ 0 ≤ n ∧ sp + n ≤ 12 ∧ dp + n ≤ 12 ∧ K (PS h (up s 43 (cps (s 52) (s 43) sp dp n)) r)) := acp_q (b0 := 12) (b := 12) ⟨by decide, by decide⟩ ⟨by decide, by decide⟩ (fun _ _ _ => rfl) (fun _ _ _ => rfl) rfl rfl
theorem cp_43_52 {sp dp n : Int} {K : az_H → Prop} : acp (PS h s r) 43 52 sp dp n K = (0 ≤ sp ∧ 0 ≤ dp ∧ 0 ≤ n ∧ sp + n ≤ 12 ∧ dp + n ≤ 12 ∧ K (PS h (up s 52 (cps (s 43) (s 52) sp dp n)) r)) := acp_q (b0 := 12) (b := 12) ⟨by decide, by decide⟩ ⟨by decide, by decide⟩ (fun _ _ _ => rfl) (fun _ _ _ => rfl) rfl rfl
/-- the array of arrays: before -/
theorem l30 {K : Option Nat → Prop} : ldR (PS h s r) 30 (.array .int) i K = (0 ≤ i ∧ i < 3 ∧ K ([some 31, some 32, some 33].getD i.toNat none)) := by
  unfold ldR
  rw [PS_in ⟨by decide, by decide⟩]
  simp only [pcx, true_and, List.length_cons, List.length_nil]
  rfl
end LS
