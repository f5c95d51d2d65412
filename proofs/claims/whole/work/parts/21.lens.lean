/-! THE HEAP AS A RECORD: the cells that the two constructors make (handles 16 to 88), by what they hold: ints of objects f, arrays of numbers A, arrays of references B; all else is h's. -/
def up {α : Type} (f : Nat → α) (k : Nat) (v : α) : Nat → α := fun j => if j = k then v else f j
theorem up_at {α : Type} (f : Nat → α) (k : Nat) (v : α) : up f k v k = v := if_pos rfl
theorem up_ne {α : Type} {f : Nat → α} {k j : Nat} {v : α} (e : j ≠ k) : up f k v j = f j := if_neg e
theorem up_up {α : Type} (f : Nat → α) (k : Nat) (v w : α) : up (up f k v) k w = up f k w := by
  funext j
  by_cases e : j = k
  · subst e; simp [up]
  · simp [up, e]
theorem up_same {α : Type} (f : Nat → α) (k : Nat) : up f k (f k) = f := by
  funext j
  by_cases e : j = k
  · subst e; simp [up]
  · simp [up, e]
/-- cell i, of which the ints are g, the numbers xs, the references rs -/
def pcx (i : Nat) (g : Nat → Int) (xs : List Int) (rs : List (Option Nat)) : az_C := match i with
  | 16 => cO 10 [vo 17, vo 19, vo 22, vo 27, vo 35, vo 44, vo 48, vo 51, vo 52, vo 53, vi (g 10), vi (g 11)]
  | 17 => cO 8 [vo 18, vi (g 1), vi (g 2), vi (g 3), vi (g 4), vi (g 5)]
  | 18 => cA .byte xs
  | 19 => cO 5 [vo 17, vo 20, vo 21, vi (g 3), vi (g 4), vi (g 5), vi (g 6)]
  | 22 => cO 9 [vo 23, vo 24, vo 25, vo 26, vi (g 4), vi (g 5)]
  | 23 => cR (.object "InvariantSearch$Code") rs
  | 26 => cR (.object "InvariantSearch$Call") rs
  | 27 => cO 4 [vo 22, vo 28, vo 29, vo 30, vo 34, vi (g 5)]
  | 28 => cO 0 [vi 0, vi 0, vi 0, vi 0]
  | 30 => cR (.array .int) [some 31, some 32, some 33]
  | 34 => cA .long xs
  | 35 => cO 7 [vo 27, vo 36, vo 42, vo 43, vi (g 4), vi (g 5)]
  | 36 => cO 3 [vo 37, vo 38, vo 39, vo 40, vo 41, vi (g 5)]
  | 42 => cR (.object "InvariantSearch$Call") rs
  | 44 => cO 2 [vo 35, vo 22, vo 45, vi (g 3)]
  | 45 => cO 6 [vi 8, vo 46, vo 47, vi (g 3)]
  | 48 => cO 6 [vi 20, vo 49, vo 50, vi (g 3)]
  | 51 => cR (.object "InvariantSearch$Code") rs
  | 54 => cO 11 [vo 55, vi (g 1), vi (g 2), vi (g 3), vi (g 4), vi (g 5), vi (g 6), vo 56, vo 57, vo 58, vo 59, vo 60, vo 61, vi (g 13), vi (g 14), vi (g 15), vo 62, vi (g 17), vi (g 18), vi (g 19), vo 63, vi (g 21), vo 64, vo 65, vo 66, vo 67, vo 68, vi (g 27), vo 69, vi (g 29), vi (g 30), vo 70, vi (g 32), vi (g 33), vi (g 34), vo 71, vo 72, vo 73, vo 74, vo 75, vi (g 40), vo 76, vo 77, vo 78, vo 79, vi (g 45), vo 80, vo 81, vi (g 48), vo 82, vi (g 50), vo 83, vo 84, vi (g 53), vo 85, vo 86, vo 87, vo 88, vi (g 58)]
  | 61 => cA .boolean xs
  | 69 => cA .boolean xs
  | _ => cA .int xs
def PH (h : az_H) (f : Nat → Nat → Int) (A : Nat → List Int) (B : Nat → List (Option Nat)) : az_H := (fun i => if 16 ≤ i ∧ i < 89 then pcx i (f i) (A i) (B i) else h.1 i, h.2)
section LP
variable {h : az_H} {f : Nat → Nat → Int} {A : Nat → List Int} {B : Nat → List (Option Nat)} {a ci k : Nat} {t : FieldType}
theorem PH_in (h1 : 16 ≤ a ∧ a < 89) : (PH h f A B).1 a = pcx a (f a) (A a) (B a) := if_pos h1
theorem PH_out (h1 : 89 ≤ a) : (PH h f A B).1 a = h.1 a := if_neg (by omega)
theorem PH_low (h1 : a < 16) : (PH h f A B).1 a = h.1 a := if_neg (by omega)
theorem PH_sz : (PH h f A B).2 = h.2 := rfl
theorem PH_psh {c : az_C} (h1 : 89 ≤ h.2) : hpsh (PH h f A B) c = PH (hpsh h c) f A B := by
  refine Prod.ext (funext fun j => ?_) rfl
  show (if j = h.2 then c else if 16 ≤ j ∧ j < 89 then pcx j (f j) (A j) (B j) else h.1 j) = (if 16 ≤ j ∧ j < 89 then pcx j (f j) (A j) (B j) else if j = h.2 then c else h.1 j)
  by_cases e : j = h.2
  · rw [if_pos e, if_neg (by omega), if_pos e]
  · rw [if_neg e, if_neg e]
theorem PH_set {f' : Nat → Nat → Int} {A' : Nat → List Int} {B' : Nat → List (Option Nat)} {c : az_C} (h1 : 16 ≤ a ∧ a < 89) (hc : c = pcx a (f' a) (A' a) (B' a)) (ho : ∀ j, j ≠ a → f j = f' j ∧ A j = A' j ∧ B j = B' j) : hset (PH h f A B) a c = PH h f' A' B' := by
  refine Prod.ext (funext fun j => ?_) rfl
  show (if j = a then c else if 16 ≤ j ∧ j < 89 then pcx j (f j) (A j) (B j) else h.1 j) = (if 16 ≤ j ∧ j < 89 then pcx j (f' j) (A' j) (B' j) else h.1 j)
  by_cases e : j = a
  · rw [if_pos e, e, if_pos h1, hc]
  · obtain ⟨e1, e2, e3⟩ := ho j e
    rw [if_neg e, e1, e2, e3]
theorem PH_dyn {c : az_C} (h1 : 89 ≤ a) : hset (PH h f A B) a c = PH (hset h a c) f A B := by
  refine Prod.ext (funext fun j => ?_) rfl
  show (if j = a then c else if 16 ≤ j ∧ j < 89 then pcx j (f j) (A j) (B j) else h.1 j) = (if 16 ≤ j ∧ j < 89 then pcx j (f j) (A j) (B j) else if j = a then c else h.1 j)
  by_cases e : j = a
  · rw [if_pos e, if_neg (by omega), if_pos e]
  · rw [if_neg e, if_neg e]
/-- an int field is written -/
theorem wP_i {v : Int} {K : az_H → Prop} (h1 : 16 ≤ a ∧ a < 89) (e : ∃ fs, pcx a (f a) (A a) (B a) = cO ci fs ∧ cO ci (fs.set k (vi v)) = pcx a (up (f a) k v) (A a) (B a)) (hf : az_fit t (vi v)) (kk : K (PH h (up f a (up (f a) k v)) A B)) : wrF (PH h f A B) a ci k t (vi v) K := by
  obtain ⟨fs, e1, e2⟩ := e
  refine wrF_i ((PH_in h1).trans e1) hf ?_
  rw [PH_set (f' := up f a (up (f a) k v)) (A' := A) (B' := B) h1 (by rw [e2, up_at]) (fun j hj => ⟨(up_ne hj).symm, rfl, rfl⟩)]
  exact kk
/-- an array of numbers is read, written -/
theorem lP_i {i : Int} {K : Int → Prop} (h1 : 16 ≤ a ∧ a < 89) (e : pcx a (f a) (A a) (B a) = cA t (A a)) (h0 : 0 ≤ i) (hi : i < (A a).length) (kk : K ((A a).getD i.toNat 0)) : ldI (PH h f A B) a t i K := ldI_i ((PH_in h1).trans e) h0 hi kk
theorem sP_i {i x : Int} {K : az_H → Prop} (h1 : 16 ≤ a ∧ a < 89) (e : ∀ xs, pcx a (f a) xs (B a) = cA t xs) (h0 : 0 ≤ i) (hi : i < (A a).length) (kk : K (PH h f (up A a ((A a).set i.toNat x)) B)) : stI (PH h f A B) a t i x K := by
  refine stI_i ((PH_in h1).trans (e _)) h0 hi ?_
  rw [PH_set (f' := f) (A' := up A a ((A a).set i.toNat x)) (B' := B) h1 (by rw [up_at, e]) (fun j hj => ⟨rfl, (up_ne hj).symm, rfl⟩)]
  exact kk
theorem nP_i {K : Int → Prop} (h1 : 16 ≤ a ∧ a < 89) (e : pcx a (f a) (A a) (B a) = cA t (A a)) (ht : t ∈ arrT) (hn : (A a).length < 2147483648) (kk : K (A a).length) : aln (PH h f A B) a K := aln_i ((PH_in h1).trans e) ht hn kk
/-- an array of references -/
theorem lQ_i {i : Int} {K : Option Nat → Prop} (h1 : 16 ≤ a ∧ a < 89) (e : pcx a (f a) (A a) (B a) = cR t (B a)) (h0 : 0 ≤ i) (hi : i < (B a).length) (kk : K ((B a).getD i.toNat none)) : ldR (PH h f A B) a t i K := ldR_i ((PH_in h1).trans e) h0 hi kk
theorem sQ_i {C : String} {i : Int} {r : Option Nat} {K : az_H → Prop} (h1 : 16 ≤ a ∧ a < 89) (e : ∀ rs, pcx a (f a) (A a) rs = cR (.object C) rs) (hb : ∀ b, r = some b → ∃ fs, (PH h f A B).1 b = cO ci fs) (h0 : 0 ≤ i) (hi : i < (B a).length) (kk : K (PH h f A (up B a ((B a).set i.toNat r)))) : stR (PH h f A B) a C ci i r K := by
  refine stR_i ((PH_in h1).trans (e _)) hb h0 hi ?_
  rw [PH_set (f' := f) (A' := A) (B' := up B a ((B a).set i.toNat r)) h1 (by rw [up_at, e]) (fun j hj => ⟨rfl, rfl, (up_ne hj).symm⟩)]
  exact kk
/-- a stretch is copied -/
theorem cP_i {a0 : Nat} {sp dp n : Int} {K : az_H → Prop} (h0 : 16 ≤ a0 ∧ a0 < 89) (h1 : 16 ≤ a ∧ a < 89) (e0 : pcx a0 (f a0) (A a0) (B a0) = cA .int (A a0)) (e : ∀ xs, pcx a (f a) xs (B a) = cA .int xs) (g0 : 0 ≤ sp) (g1 : 0 ≤ dp) (g2 : 0 ≤ n) (g3 : sp + n ≤ (A a0).length) (g4 : dp + n ≤ (A a).length)
    (kk : K (PH h f (up A a (cpyL (A a0) (A a) sp.toNat dp.toNat n.toNat)) B)) : acp (PH h f A B) a0 a sp dp n K := by
  refine acp_i ((PH_in h0).trans e0) ((PH_in h1).trans (e _)) g0 g1 g2 g3 g4 ?_
  rw [PH_set (f' := f) (A' := up A a (cpyL (A a0) (A a) sp.toNat dp.toNat n.toNat)) (B' := B) h1 (by rw [up_at, e]) (fun j hj => ⟨rfl, (up_ne hj).symm, rfl⟩)]
  exact kk
end LP
