/-! WHAT A CALL DOES, whatever was met -/
theorem meetZ_N {w i : Int} {z : Z3} : (meetZ w i z).1 = z.1 := by
  unfold meetZ
  split
  · rfl
  · split <;> rfl
theorem meetZ_0 {i : Int} {z : Z3} : meetZ 0 i z = z := rfl
theorem exec_in {hf hf' : Z3 → Z3} {w w' : Int} {c : Cd} {k who n v : Int} (hh : ∀ z z' : Z3, z.1 = z'.1 → (hf z).1 = (hf' z').1) : ∀ (f j : Nat) (st : List Int) (z z' : Z3), z.1 = z'.1 → (exec hf w c k who n v f j st z).1 = (exec hf' w' c k who n v f j st z').1 ∧ (exec hf w c k who n v f j st z).2.1 = (exec hf' w' c k who n v f j st z').2.1
  | 0, _, _, _, _, e => ⟨rfl, e⟩
  | f + 1, j, st, z, z', e => by
    rw [exec_s, exec_s]
    by_cases hj : c.1 ≤ j
    · rw [if_pos hj, if_pos hj]; exact ⟨rfl, e⟩
    rw [if_neg hj, if_neg hj]
    by_cases h20 : c.2.1 j < 20
    · rw [if_pos h20, if_pos h20, e]
      cases rk (c.2.1 j) (c.2.2.1 j) who n v z'.1 st with
      | none => exact ⟨rfl, e⟩
      | some st' => exact exec_in hh f (j + 1) st' z z' e
    rw [if_neg h20, if_neg h20]
    have em : ∀ i i', (meetZ w i z).1 = (meetZ w' i' z').1 := fun i i' => meetZ_N.trans (e.trans meetZ_N.symm)
    by_cases e20 : c.2.1 j = 20
    · rw [if_pos e20, if_pos e20]
      by_cases cx : st.headD 0 = 0
      · rw [if_pos cx, if_pos cx]; exact ⟨rfl, em _ _⟩
      · rw [if_neg cx, if_neg cx]; exact exec_in hh f (j + 1) [] _ _ (em _ _)
    rw [if_neg e20, if_neg e20]
    by_cases e23 : c.2.1 j = 23
    · rw [if_pos e23, if_pos e23]
      by_cases cx : st.headD 0 = 0
      · rw [if_pos cx, if_pos cx]; exact exec_in hh f _ [] _ _ (em _ _)
      · rw [if_neg cx, if_neg cx]; exact exec_in hh f (j + 1) [] _ _ (em _ _)
    rw [if_neg e23, if_neg e23]
    by_cases e21 : c.2.1 j = 21
    · rw [if_pos e21, if_pos e21]
      exact exec_in hh f (j + 1) [] _ _ (by rw [e])
    rw [if_neg e21, if_neg e21]
    by_cases cx : st.headD 0 < 0
    · rw [if_pos cx, if_pos cx]; exact ⟨rfl, e⟩
    rw [if_neg cx, if_neg cx, e]
    by_cases cy : z'.1 18 < st.headD 0
    · rw [if_pos cy, if_pos cy]; exact ⟨rfl, e⟩
    rw [if_neg cy, if_neg cy]
    exact exec_in hh f (j + 1) [] _ _ (hh _ _ (by unfold payZ; rw [e]))
theorem perf_in {w w' : Int} {cs : Int → Option Cd} {hk : Int → Option (Int × Int)} : ∀ (m : Nat) {who k n v : Int} {z z' : Z3}, z.1 = z'.1 → (perf w cs hk m who k n v z).1 = (perf w' cs hk m who k n v z').1 ∧ (perf w cs hk m who k n v z).2.1 = (perf w' cs hk m who k n v z').2.1
  | 0, _, _, _, _, _, _, e => ⟨rfl, e⟩
  | m + 1, who, k, n, v, z, z', e => by
    cases hcs : cs k with
    | none => rw [perf_n (Or.inl hcs), perf_n (Or.inl hcs)]; exact ⟨rfl, e⟩
    | some c =>
      by_cases cv : z'.1 (14 + who) < v
      · rw [perf_n (Or.inr (by rw [e]; exact cv)), perf_n (Or.inr cv)]; exact ⟨rfl, e⟩
      · rw [perf_s hcs (by rw [e]; exact cv), perf_s hcs cv]
        have hh : ∀ z z' : Z3, z.1 = z'.1 → (hfZ w cs hk m who z).1 = (hfZ w' cs hk m who z').1 := by
          intro z z' e
          unfold hfZ
          cases hk who with
          | none => exact e
          | some q => exact (perf_in m e).2
        have key := exec_in (w := w) (w' := w') (c := c) (k := k) (who := who) (n := n) (v := v) hh (c.1 + 1) 0 [] (entZ who v z) (entZ who v z') (by unfold entZ; rw [e])
        generalize exec (hfZ w cs hk m who) w c k who n v (c.1 + 1) 0 [] (entZ who v z) = X at key
        generalize exec (hfZ w' cs hk m who) w' c k who n v (c.1 + 1) 0 [] (entZ who v z') = X' at key
        obtain ⟨x1, x2⟩ := X
        obtain ⟨y1, y2⟩ := X'
        have k1 : x1 = y1 := key.1
        subst k1
        cases x1 with
        | none => exact ⟨rfl, e⟩
        | some st => exact ⟨rfl, key.2⟩
theorem exec_q0 {hf : Z3 → Z3} {c : Cd} {k who n v : Int} (hh : ∀ z : Z3, (hf z).2 = z.2) : ∀ (f j : Nat) (st : List Int) (z : Z3), (exec hf 0 c k who n v f j st z).2.2 = z.2
  | 0, _, _, _ => rfl
  | f + 1, j, st, z => by
    rw [exec_s]
    by_cases hj : c.1 ≤ j
    · rw [if_pos hj]
    rw [if_neg hj]
    by_cases h20 : c.2.1 j < 20
    · rw [if_pos h20]
      cases rk (c.2.1 j) (c.2.2.1 j) who n v z.1 st with
      | none => rfl
      | some st' => exact exec_q0 hh f (j + 1) st' z
    rw [if_neg h20]
    simp only [meetZ_0]
    by_cases e20 : c.2.1 j = 20
    · rw [if_pos e20]
      by_cases cx : st.headD 0 = 0
      · rw [if_pos cx]
      · rw [if_neg cx]; exact exec_q0 hh f (j + 1) [] _
    rw [if_neg e20]
    by_cases e23 : c.2.1 j = 23
    · rw [if_pos e23]
      by_cases cx : st.headD 0 = 0
      · rw [if_pos cx]; exact exec_q0 hh f _ [] _
      · rw [if_neg cx]; exact exec_q0 hh f (j + 1) [] _
    rw [if_neg e23]
    by_cases e21 : c.2.1 j = 21
    · rw [if_pos e21]
      exact exec_q0 hh f (j + 1) [] _
    rw [if_neg e21]
    by_cases cx : st.headD 0 < 0
    · rw [if_pos cx]
    rw [if_neg cx]
    by_cases cy : z.1 18 < st.headD 0
    · rw [if_pos cy]
    rw [if_neg cy, exec_q0 hh f (j + 1) [] _, hh]
    rfl
theorem perf_q0 {cs : Int → Option Cd} {hk : Int → Option (Int × Int)} : ∀ (m : Nat) {who k n v : Int} {z : Z3}, (perf 0 cs hk m who k n v z).2.2 = z.2
  | 0, _, _, _, _, _ => rfl
  | m + 1, who, k, n, v, z => by
    cases hcs : cs k with
    | none => rw [perf_n (Or.inl hcs)]
    | some c =>
      by_cases cv : z.1 (14 + who) < v
      · rw [perf_n (Or.inr cv)]
      · rw [perf_s hcs cv]
        have hh : ∀ z : Z3, (hfZ 0 cs hk m who z).2 = z.2 := by
          intro z
          unfold hfZ
          cases hk who with
          | none => rfl
          | some q => exact perf_q0 m
        have key := exec_q0 (c := c) (k := k) (who := who) (n := n) (v := v) hh (c.1 + 1) 0 [] (entZ who v z)
        generalize exec (hfZ 0 cs hk m who) 0 c k who n v (c.1 + 1) 0 [] (entZ who v z) = X at key
        obtain ⟨x1, x2⟩ := X
        cases x1 with
        | none => exact key
        | some st => exact key
