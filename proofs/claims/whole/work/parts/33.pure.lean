/-! THE MACHINE, as functions of numbers -/
theorem fit0 : az_fit .boolean (vi 0) = True := by simp [az_fit]
theorem fit1 : az_fit .boolean (vi 1) = True := by simp [az_fit]
theorem uf_pa {s : Nat → Int → Int} {a b : Nat} {k v : Int} : uf s a k v b = if b = a then ud (s a) k v else s b := rfl
theorem uq_pa {s : Nat → Int → Option Nat} {a b : Nat} {k : Int} {v : Option Nat} : uq s a k v b = if b = a then ud (s a) k v else s b := rfl
theorem uf_same {s : Nat → Int → Int} {a : Nat} {k v : Int} (e : s a k = v) : uf s a k v = s := by
  subst e
  funext b j
  simp only [uf_pa]
  by_cases hb : b = a
  · subst hb
    rw [if_pos rfl, ud_ap]
    by_cases hj : j = k
    · rw [if_pos hj, hj]
    · rw [if_neg hj]
  · rw [if_neg hb]
theorem uf_uf {s : Nat → Int → Int} {a : Nat} {k v w : Int} : uf (uf s a k v) a k w = uf s a k w := by
  funext b j
  simp only [uf_pa, ud_ap, if_true]
  by_cases hb : b = a
  · rw [if_pos hb, if_pos hb, ud_ap, ud_ap, ud_ap]
    by_cases hj : j = k
    · rw [if_pos hj, if_pos hj]
    · rw [if_neg hj, if_neg hj, if_neg hj]
  · rw [if_neg hb, if_neg hb, if_neg hb]
/-- numbers that fit -/
abbrev fts (x : Int) : Prop := -1000000000 ≤ x ∧ x ≤ 1000000000
/-- a stack in an array -/
def stk : List Int → (Int → Int) → Prop
  | [], _ => True
  | x :: s, g => g (s.length : Int) = x ∧ fts x ∧ stk s g
theorem stk_fr {g g' : Int → Int} : ∀ (s : List Int), stk s g → (∀ k : Int, 0 ≤ k → k < s.length → g' k = g k) → stk s g'
  | [], _, _ => trivial
  | x :: s, ⟨h1, h2, h3⟩, e => ⟨by rw [e _ (by omega) (by rw [List.length_cons]; omega)]; exact h1, h2, stk_fr s h3 (fun k k0 k1 => e k k0 (by rw [List.length_cons]; omega))⟩
theorem stk_psh {g : Int → Int} {s : List Int} {x : Int} (hs : stk s g) (hx : fts x) : stk (x :: s) (ud g s.length x) :=
  ⟨ud_at, hx, stk_fr s hs (fun k k0 k1 => ud_ne (by omega))⟩
abbrev Z3 : Type := (Int → Int) × (Int → Int) × Int
/-- code: how many, words, arguments, goals -/
abbrev Cd : Type := Nat × (Int → Int) × (Int → Int) × (Int → Int)
def psh (x : Int) (st : List Int) : Option (List Int) := if -1000000000 ≤ x ∧ x ≤ 1000000000 then some (x :: st) else none
def cellI (a who : Int) : Int := if a < 6 then a else if a = 6 then 6 + who else 10 + who
/-- of two -/
def tw (o a b : Int) : Int := if o = 11 then a + b else if o = 12 then a - b else if o = 13 then (if a = 0 then (if b = 0 then 0 else 1) else 1) else if o = 14 then a * b else if o = 15 then (if b = 0 then 1000000001 else a.tdiv b) else if o = 16 then (if a = 0 then 0 else if b = 0 then 0 else 1) else if o = 17 then (if b ≤ a then 0 else 1) else (if a = b then 1 else 0)
/-- a word's value, and what is left below -/
def rv (o a who n v : Int) (N : Int → Int) (st : List Int) : Int × List Int :=
  if o = 1 then (a, st) else if o = 2 then (N (cellI a who), st) else if o = 3 then (n, st) else if o = 4 then (v, st) else if o = 5 then (who, st) else if o = 6 then (N 18, st)
  else if o = 7 then (N (6 + 4 * a) + N (6 + 4 * a + 1) + N (6 + 4 * a + 2) + N (6 + 4 * a + 3), st) else if o = 8 then (N (14 + a), st)
  else if o = 9 then ((if st.headD 0 = 0 then 1 else 0), st.tail) else if o = 10 then (-st.headD 0, st.tail)
  else (tw o (st.tail.headD 0) (st.headD 0), st.tail.tail)
def rk (o a who n v : Int) (N : Int → Int) (st : List Int) : Option (List Int) := psh (rv o a who n v N st).1 (rv o a who n v N st).2
def meetZ (w i : Int) (z : Z3) : Z3 := if w = 0 then z else if z.2.1 i = 0 then (z.1, ud z.2.1 i 1, 1) else z
def payZ (who e : Int) (z : Z3) : Z3 := (ud (ud z.1 18 (w32 (z.1 18 - e))) (14 + who) (w32 (z.1 (14 + who) + e)), z.2)
def entZ (who v : Int) (z : Z3) : Z3 := (ud (ud z.1 (14 + who) (w32 (z.1 (14 + who) - v))) 18 (w32 (z.1 18 + v)), z.2)
def exec (hf : Z3 → Z3) (w : Int) (c : Cd) (k who n v : Int) : Nat → Nat → List Int → Z3 → Option (List Int) × Z3
  | 0, _, st, z => (some st, z)
  | f + 1, j, st, z => if c.1 ≤ j then (some st, z) else
    if c.2.1 j < 20 then (match rk (c.2.1 j) (c.2.2.1 j) who n v z.1 st with
      | none => (none, z)
      | some st' => exec hf w c k who n v f (j + 1) st' z)
    else if c.2.1 j = 20 then (if st.headD 0 = 0 then (none, meetZ w (24 * k + (2 * c.2.2.1 j + 1)) z) else exec hf w c k who n v f (j + 1) [] (meetZ w (24 * k + 2 * c.2.2.1 j) z))
    else if c.2.1 j = 23 then (if st.headD 0 = 0 then exec hf w c k who n v f (c.2.2.2 j).toNat [] (meetZ w (24 * k + (2 * c.2.2.1 j + 1)) z) else exec hf w c k who n v f (j + 1) [] (meetZ w (24 * k + 2 * c.2.2.1 j) z))
    else if c.2.1 j = 21 then exec hf w c k who n v f (j + 1) [] (ud z.1 (cellI (c.2.2.1 j) who) (st.headD 0), z.2)
    else (if st.headD 0 < 0 then (none, z) else if z.1 18 < st.headD 0 then (none, z) else exec hf w c k who n v f (j + 1) [] (hf (payZ who (st.headD 0) z)))
def perf (w : Int) (cs : Int → Option Cd) (hk : Int → Option (Int × Int)) : Nat → Int → Int → Int → Int → Z3 → Bool × Z3
  | 0, _, _, _, _, z => (false, z)
  | m + 1, who, k, n, v, z => match cs k with
    | none => (false, z)
    | some c => if z.1 (14 + who) < v then (false, z) else
      match exec (fun z' => match hk who with | none => z' | some q => (perf w cs hk m who q.1 q.2 0 z').2) w c k who n v (c.1 + 1) 0 [] (entZ who v z) with
      | (some _, z') => (true, z')
      | (none, z') => (false, (z.1, z'.2))
/-- does a rule hold -/
def keepsR (c : Cd) (N : Int → Int) : Bool := match (exec id 0 c 0 0 0 0 (c.1 + 1) 0 [] (N, fun _ => 0, 0)).1 with
  | some (x :: _) => x != 0
  | _ => false
/-- where a word stands in the class's code -/
def cp (o : Int → Int) : Nat → Nat
  | 0 => 0
  | j + 1 => cp o j + (if o j = 20 ∨ o j = 23 then 2 else 1)
/-- code that is as it should be: how deep the stack is before each word -/
def wIns (c : Cd) (dp : Nat → Nat) (j : Nat) : Prop :=
  (1 ≤ c.2.1 j ∧ c.2.1 j ≤ 8 ∧ dp j ≤ 30 ∧ dp (j + 1) = dp j + 1 ∧ (c.2.1 j = 2 → 0 ≤ c.2.2.1 j ∧ c.2.2.1 j ≤ 7) ∧ (c.2.1 j = 7 → 0 ≤ c.2.2.1 j ∧ c.2.2.1 j ≤ 1) ∧ (c.2.1 j = 8 → 0 ≤ c.2.2.1 j ∧ c.2.2.1 j ≤ 3)) ∨
  (9 ≤ c.2.1 j ∧ c.2.1 j ≤ 10 ∧ 1 ≤ dp j ∧ dp (j + 1) = dp j) ∨
  (11 ≤ c.2.1 j ∧ c.2.1 j ≤ 18 ∧ 2 ≤ dp j ∧ dp (j + 1) + 1 = dp j) ∨
  (20 ≤ c.2.1 j ∧ c.2.1 j ≤ 23 ∧ dp j = 1 ∧ dp (j + 1) = 0 ∧ 0 ≤ c.2.2.1 j ∧ (c.2.1 j = 20 ∨ c.2.1 j = 23 → c.2.2.1 j ≤ 11) ∧ (c.2.1 j = 21 → c.2.2.1 j ≤ 7) ∧ (c.2.1 j = 23 → (j : Int) < c.2.2.2 j ∧ c.2.2.2 j ≤ c.1 ∧ dp (c.2.2.2 j).toNat = 0))
def wfC (c : Cd) (fin : Nat) : Prop := c.1 ≤ 300 ∧ ∃ dp : Nat → Nat, dp 0 = 0 ∧ dp c.1 = fin ∧ ∀ j, j < c.1 → wIns c dp j ∧ dp j ≤ 31
/-- the class's words -/
def tO (o a : Int) : Int := if o = 1 then 1 else if o = 2 then (if a < 6 then 2 else 3) else if o = 3 then 5 else if o = 4 then 6 else if o = 5 then 7 else if o = 6 then 2 else if o = 7 then 4 else if o = 8 then 2 else o - 1
def tA (o a : Int) : Int := if o = 1 then a else if o = 2 then (if a < 6 then a else if a = 6 then 6 else 10) else if o = 6 then 18 else if o = 7 then 6 + 4 * a else if o = 8 then 14 + a else 0
def cIns (O A : Int → Int) (c : Cd) (j : Nat) : Prop :=
  (c.2.1 j < 20 → O (cp c.2.1 j) = tO (c.2.1 j) (c.2.2.1 j) ∧ A (cp c.2.1 j) = tA (c.2.1 j) (c.2.2.1 j)) ∧
  (c.2.1 j = 20 → O (cp c.2.1 j) = 18 ∧ A (cp c.2.1 j) = 2 * c.2.2.1 j ∧ O (cp c.2.1 j + 1) = 19) ∧
  (c.2.1 j = 23 → O (cp c.2.1 j) = 18 ∧ A (cp c.2.1 j) = 2 * c.2.2.1 j ∧ O (cp c.2.1 j + 1) = 20 ∧ A (cp c.2.1 j + 1) = cp c.2.1 (c.2.2.2 j).toNat) ∧
  (c.2.1 j = 21 → O (cp c.2.1 j) = (if c.2.2.1 j < 6 then 21 else 22) ∧ A (cp c.2.1 j) = (if c.2.2.1 j < 6 then c.2.2.1 j else if c.2.2.1 j = 6 then 6 else 10)) ∧
  (c.2.1 j = 22 → O (cp c.2.1 j) = 23)
def lsF (xs : List Int) : Int → Int := fun i => xs.getD i.toNat 0
def cCodx (h : az_H) (b : Nat) (lv : Int) (ops args : List Int) (c : Cd) : Prop := ∃ (st : Int) (bo ba : Nat), 89 ≤ b ∧ 89 ≤ bo ∧ 89 ≤ ba ∧ h.1 b = cO 1 [vi st, vi lv, vi (cp c.2.1 c.1), vo bo, vo ba] ∧ h.1 bo = cA .int ops ∧ h.1 ba = cA .int args ∧ ops.length = cp c.2.1 c.1 ∧ args.length = cp c.2.1 c.1 ∧ cp c.2.1 c.1 ≤ 208 ∧ ∀ j, j < c.1 → cIns (lsF ops) (lsF args) c j
def cCode (h : az_H) (b : Nat) (lv : Int) (c : Cd) : Prop := ∃ ops args, cCodx h b lv ops args c
