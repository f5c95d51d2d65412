/-! THE REFERENCE'S MACHINE: calls within calls -/
def rSt (w : Int) (s : Nat → Int → Int) (z : Z3) : Prop := eq19 (s 64) z.1 ∧ (∀ i, 0 ≤ i → i < 144 → s 69 i = z.2.1 i) ∧ s 54 30 = z.2.2 ∧ s 54 29 = w ∧ rgN z.1
def rCode (s : Nat → Int → Int) (k : Int) (c : Cd) : Prop := s 59 k = c.1 ∧ ∀ j : Nat, j < c.1 → s 56 (300 * k + j) = c.2.1 j ∧ s 57 (300 * k + j) = c.2.2.1 j ∧ (c.2.1 j = 23 → s 58 (300 * k + j) = c.2.2.2 j)
def REnv (s : Nat → Int → Int) (cs : Int → Option Cd) (hk : Int → Option (Int × Int)) : Prop :=
  (∀ k, 0 ≤ k → k < 6 → (cs k = none → s 61 k = 0) ∧ ∀ c, cs k = some c → s 61 k = 1 ∧ rCode s k c ∧ wfC c 0) ∧
  ∀ i, 0 ≤ i → i < 4 → (hk i = none → s 67 i < 0) ∧ ∀ q, hk i = some q → (0 ≤ q.1 ∧ q.1 < 6) ∧ s 67 i = q.1 ∧ s 68 i = q.2
def frX (s s' : Nat → Int → Int) : Prop := (∀ a, a ≠ 54 → a ≠ 64 → ¬ (69 ≤ a ∧ a ≤ 75) → s' a = s a) ∧ ∀ k, k ≠ 30 → k ≠ 32 → k ≠ 33 → k ≠ 34 → s' 54 k = s 54 k
theorem frX_rf {s : Nat → Int → Int} : frX s s := ⟨fun _ _ _ _ => rfl, fun _ _ _ _ _ => rfl⟩
theorem frX_tr {s s' s'' : Nat → Int → Int} (h1 : frX s s') (h2 : frX s' s'') : frX s s'' := ⟨fun a x y t => (h2.1 a x y t).trans (h1.1 a x y t), fun k x y t u => (h2.2 k x y t u).trans (h1.2 k x y t u)⟩
theorem frX_r {s s' : Nat → Int → Int} (h1 : rFr s s') : frX s s' := ⟨fun a x _ t => h1.1 a x (by omega), fun k _ x y _ => h1.2 k x y⟩
theorem frX_up {s : Nat → Int → Int} {b : Nat} {g : Int → Int} (hb : b = 64 ∨ (69 ≤ b ∧ b ≤ 75)) : frX s (up s b g) := ⟨fun a _ _ _ => up_ne (by omega), fun k _ _ _ _ => by rw [up_ne (by omega)]⟩
theorem frX_uf {s : Nat → Int → Int} {b : Nat} {k v : Int} (hb : b = 64 ∨ (69 ≤ b ∧ b ≤ 75)) : frX s (uf s b k v) := frX_up hb
theorem frX_54 {s : Nat → Int → Int} {k v : Int} (hk : k = 30 ∨ k = 32 ∨ k = 33 ∨ k = 34) : frX s (uf s 54 k v) := ⟨fun a y _ _ => up_ne y, fun j _ _ _ _ => by
  show ud (s 54) k v j = s 54 j
  exact ud_ne (by omega)⟩
theorem REnv_fr {s s' : Nat → Int → Int} {cs : Int → Option Cd} {hk : Int → Option (Int × Int)} (hf : frX s s') (hE : REnv s cs hk) : REnv s' cs hk := by
  have e56 := hf.1 56 (by decide) (by decide) (by decide)
  have e57 := hf.1 57 (by decide) (by decide) (by decide)
  have e58 := hf.1 58 (by decide) (by decide) (by decide)
  have e59 := hf.1 59 (by decide) (by decide) (by decide)
  have e61 := hf.1 61 (by decide) (by decide) (by decide)
  have e67 := hf.1 67 (by decide) (by decide) (by decide)
  have e68 := hf.1 68 (by decide) (by decide) (by decide)
  unfold REnv rCode at *
  rw [e56, e57, e58, e59, e61, e67, e68]
  exact hE
/-- the frames below u are as they were -/
def lowF (u : Int) (s s' : Nat → Int → Int) : Prop := (∀ i : Int, i < u → s' 71 i = s 71 i ∧ s' 72 i = s 72 i ∧ s' 73 i = s 73 i ∧ s' 74 i = s 74 i) ∧ ∀ i : Int, i < 19 * u → s' 75 i = s 75 i
theorem lowF_tr {u u' : Int} {s s' s'' : Nat → Int → Int} (hu : u ≤ u') (h1 : lowF u s s') (h2 : lowF u' s' s'') : lowF u s s'' := by
  refine ⟨fun i hi => ?_, fun i hi => (h2.2 i (by omega)).trans (h1.2 i hi)⟩
  have a1 := h1.1 i hi
  have a2 := h2.1 i (by omega)
  exact ⟨a2.1.trans a1.1, a2.2.1.trans a1.2.1, a2.2.2.1.trans a1.2.2.1, a2.2.2.2.trans a1.2.2.2⟩
theorem lowF_eq {u : Int} {s s' : Nat → Int → Int} (e : ∀ a, 71 ≤ a → a ≤ 75 → s' a = s a) : lowF u s s' := by
  refine ⟨fun i _ => ?_, fun i _ => ?_⟩
  · rw [e 71 (by decide) (by decide), e 72 (by decide) (by decide), e 73 (by decide) (by decide), e 74 (by decide) (by decide)]
    exact ⟨rfl, rfl, rfl, rfl⟩
  · rw [e 75 (by decide) (by decide)]
theorem lowF_71 {u x : Int} {s : Nat → Int → Int} : lowF u s (uf s 71 u x) := by
  refine ⟨fun i hi => ⟨?_, rfl, rfl, rfl⟩, fun i _ => rfl⟩
  show ud (s 71) u x i = _
  exact ud_ne (by omega)
/-- the top frame -/
def tF (s : Nat → Int → Int) (u k n v : Int) (N0 : Int → Int) (j : Nat) : Prop := s 54 34 = u + 1 ∧ s 71 u = j ∧ s 72 u = k ∧ s 73 u = n ∧ s 74 u = v ∧ ∀ i, 0 ≤ i → i < 19 → s 75 (19 * u + i) = N0 i
theorem tF_eq {s s' : Nat → Int → Int} {u k n v : Int} {N0 : Int → Int} {j : Nat} (e : ∀ a, 71 ≤ a → a ≤ 75 → s' a = s a) (e' : s' 54 34 = s 54 34) (hT : tF s u k n v N0 j) : tF s' u k n v N0 j := by
  unfold tF at *
  rw [e', e 71 (by decide) (by decide), e 72 (by decide) (by decide), e 73 (by decide) (by decide), e 74 (by decide) (by decide), e 75 (by decide) (by decide)]
  exact hT
section RN
variable {h : az_H} {s : Nat → Int → Int} {r : Nat → Int → Option Nat} {G : az_G} {d e m : Nat} {Q : Option az_V → az_H → Prop} {w : Int} {cs : Int → Option Cd} {hk : Int → Option (Int × Int)} {z : Z3} {c : Cd} {who k n v u : Int}
theorem sX11_meet {l : Int} (hst : rSt w s z) (hk6 : 0 ≤ k ∧ k < 6) (hl : 0 ≤ l ∧ l < 24) (hq : ∀ s', (∀ a, a ≠ 54 → a ≠ 69 → s' a = s a) → (∀ j, j ≠ 30 → s' 54 j = s 54 j) → rSt w s' (meetZ w (24 * k + l) z) → Q none (PS h s' r)) : cz G mX11_meet d 0 0 [vo 54, vi k, vi l] (PS h s r) Q := by
  refine vX11_meet ?_
  have ei : w32 (w32 (24 * k) + l) = 24 * k + l := by rw [w32_id (x := 24 * k) (by omega) (by omega), w32_id (by omega) (by omega)]
  have hm := hst.2.1 (24 * k + l) (by omega) (by omega)
  rw [ri_54_29, hst.2.2.2.1]
  unfold meetZ at hq
  by_cases c : w = 0
  · rw [if_pos c]
    simp only [if_pos c] at hq
    exact hq s (fun _ _ _ => rfl) (fun _ _ => rfl) hst
  rw [if_neg c, ro_54_28, ld_69, ei, hm]
  simp only [if_neg c] at hq
  refine ⟨by omega, by omega, ?_⟩
  by_cases c1 : z.2.1 (24 * k + l) = 0
  · rw [if_pos c1, ro_54_28, st_69]
    refine ⟨by omega, by omega, ?_⟩
    rw [wb_54_30_1]
    simp only [if_pos c1] at hq
    refine hq _ (fun a x y => ?_) (fun j x => ?_) ⟨hst.1, fun i i0 i1 => ?_, rfl, hst.2.2.2.1, hst.2.2.2.2⟩
    · rw [uf, up_ne x, uf, up_ne y]
    · show ud (s 54) 30 1 j = _
      exact ud_ne x
    · show ud (s 69) (24 * k + l) 1 i = ud z.2.1 (24 * k + l) 1 i
      rw [ud_ap, ud_ap, hst.2.1 i i0 i1]
  · rw [if_neg c1]
    simp only [if_neg c1] at hq
    exact hq s (fun _ _ _ => rfl) (fun _ _ => rfl) hst
theorem rSave {a : Nat} {N : Int} (ha : a ≠ 64) (hS : ∀ (s1 : Nat → Int → Int) (i x : Int) (K : az_H → Prop), stI (PS h s1 r) a .int i x K = (0 ≤ i ∧ i < N ∧ K (PS h (uf s1 a i x) r))) (u0 : 0 ≤ u) (uN : 19 * u + 19 ≤ N) (n1 : N < 10000) (hq : Q none (PS h (up s a (cps (s 64) (s a) 0 (19 * u) 19)) r)) : cz G mX11_save d 0 0 [vo 54, vo a, vi u] (PS h s r) Q := by
  refine vX11_save ?_
  have L : ∀ (t : Nat) (x : Int), x = 19 - t → 0 ≤ x → pX11_save_2 G d 54 (some a) u x (PS h (up s a (cps (s 64) (s a) 0 (19 * u) x)) r) Q := by
    intro t
    induction t with
    | zero =>
      intro x hx _
      subst hx
      refine vX11_save_2 ?_
      rw [if_pos (by decide)]
      exact hq
    | succ t ih =>
      intro x hx x0
      refine vX11_save_2 ?_
      have e1 : w32 (w32 (19 * u) + x) = 19 * u + x := by rw [w32_id (x := 19 * u) (by omega) (by omega), w32_id (by omega) (by omega)]
      have e2 := cps_s (g := s 64) (g' := s a) (sp := 0) (dp := 19 * u) x0
      rw [Int.zero_add] at e2
      rw [if_neg (by omega), ro_54_22, ld_64, nnR_q, hS, e1, up_ne (Ne.symm ha), up_uf, e2, w32_id (x := x + 1) (by omega) (by omega)]
      exact ⟨by omega, by omega, by omega, by omega, ih (x + 1) (by omega) (by omega)⟩
  have := L 19 0 (by omega) (by omega)
  rw [cps_0, up_same] at this
  exact this
theorem rLoad {a : Nat} {N : Int} (ha : a ≠ 64) (hS : ∀ (s1 : Nat → Int → Int) (i : Int) (K : Int → Prop), ldI (PS h s1 r) a .int i K = (0 ≤ i ∧ i < N ∧ K (s1 a i))) (u0 : 0 ≤ u) (uN : 19 * u + 19 ≤ N) (n1 : N < 10000) (hq : Q none (PS h (up s 64 (cps (s a) (s 64) (19 * u) 0 19)) r)) : cz G mX11_load d 0 0 [vo 54, vo a, vi u] (PS h s r) Q := by
  refine vX11_load ?_
  have L : ∀ (t : Nat) (x : Int), x = 19 - t → 0 ≤ x → pX11_load_2 G d 54 (some a) u x (PS h (up s 64 (cps (s a) (s 64) (19 * u) 0 x)) r) Q := by
    intro t
    induction t with
    | zero =>
      intro x hx _
      subst hx
      refine vX11_load_2 ?_
      rw [if_pos (by decide)]
      exact hq
    | succ t ih =>
      intro x hx x0
      refine vX11_load_2 ?_
      have e1 : w32 (w32 (19 * u) + x) = 19 * u + x := by rw [w32_id (x := 19 * u) (by omega) (by omega), w32_id (by omega) (by omega)]
      have e2 := cps_s (g := s a) (g' := s 64) (sp := 19 * u) (dp := 0) x0
      rw [Int.zero_add] at e2
      rw [if_neg (by omega), ro_54_22, nnR_q, hS, e1, up_ne ha, st_64, up_uf, e2, w32_id (x := x + 1) (by omega) (by omega)]
      exact ⟨by omega, by omega, by omega, by omega, ih (x + 1) (by omega) (by omega)⟩
  have := L 19 0 (by omega) (by omega)
  rw [cps_0, up_same] at this
  exact this
/-- a call begins -/
theorem sX11_enter (hE : REnv s cs hk) (hst : rSt w s z) (hw : 0 ≤ who ∧ who < 4) (hk6 : 0 ≤ k ∧ k < 6) (hu : s 54 34 = u) (u0 : 0 ≤ u) (u2 : u ≤ 2)
    (h0 : cs k = none ∨ z.1 (14 + who) < v → Q (some (vi 0)) (PS h s r))
    (h1 : ∀ c s', cs k = some c → ¬ z.1 (14 + who) < v → rSt w s' (entZ who v z) → frX s s' → lowF u s s' → tF s' u k n v z.1 0 → s' 54 32 = s 54 32 → s' 54 33 = s 54 33 → s' 70 = s 70 → Q (some (vi 1)) (PS h s' r)) : cz G mX11_enter (d + 1) 0 0 [vo 54, vi who, vi k, vi n, vi v] (PS h s r) Q := by
  refine vX11_enter ?_
  have hK := hE.1 k hk6.1 hk6.2
  rw [ro_54_12, ld_61]
  refine ⟨by omega, by omega, ?_⟩
  cases hcs : cs k with
  | none =>
    rw [hK.1 hcs, if_pos rfl]
    exact h0 (Or.inl hcs)
  | some c =>
    rw [(hK.2 c hcs).1, if_neg (by decide), ro_54_22, ld_64, w32_id (by omega) (by omega), hst.1 (14 + who) (by omega) (by omega)]
    refine ⟨by omega, by omega, ?_⟩
    by_cases cv : z.1 (14 + who) < v
    · rw [if_neg (by omega)]
      exact h0 (Or.inr cv)
    rw [if_pos (by omega), ri_54_34, hu, ro_54_39, rc_54]
    refine rSave (N := 57) (by decide) (fun s1 i x K => st_75) u0 (by omega) (by decide) ?_
    rw [atV_q, ri_54_34, wi_54_34]
    simp only [RB, nnR_q, atI_q, atL_q, atR_q, atO_q, atV_q, fit0, fit1, true_and, ↓reduceIte, Int.reduceEq, Int.reduceNe, Int.reduceNeg, Int.reduceLT, Int.reduceLE, Nat.reduceEqDiff, uf_pa, uq_pa, up_ap, ud_ap, Nat.reduceEqDiff, reduceCtorEq]
    have e1 : w32 (s 54 34 + 1) = u + 1 := by rw [hu, w32_id] <;> omega
    have e18 : (18 = 14 + who) = False := by simp; omega
    simp only [e18, if_false]
    rw [e1, hst.1 (14 + who) (by omega) (by omega), hst.1 18 (by decide) (by decide)]
    refine ⟨by omega, by omega, by omega, by omega, by omega, by omega, by omega, by omega, by omega, by omega, by omega, by omega, ?_⟩
    refine h1 c _ hcs cv ⟨?_, hst.2.1, hst.2.2.1, hst.2.2.2.1, rgN_ud (rgN_ud hst.2.2.2.2 (w32_lo _) (w32_hi _)) (w32_lo _) (w32_hi _)⟩ ?_ ?_ ?_ rfl rfl rfl
    · exact eq19_ud (eq19_ud hst.1)
    · exact frX_tr (frX_tr (frX_tr (frX_tr (frX_tr (frX_tr (frX_tr (frX_up (by decide)) (frX_54 (by decide))) (frX_uf (by decide))) (frX_uf (by decide))) (frX_uf (by decide))) (frX_uf (by decide))) (frX_uf (by decide))) (frX_uf (by decide))
    · refine ⟨fun i hi => ⟨?_, ?_, ?_, ?_⟩, fun i hi => ?_⟩
      · show ud (s 71) u 0 i = _
        exact ud_ne (by omega)
      · show ud (s 72) u k i = _
        exact ud_ne (by omega)
      · show ud (s 73) u n i = _
        exact ud_ne (by omega)
      · show ud (s 74) u v i = _
        exact ud_ne (by omega)
      · show cps (s 64) (s 75) 0 (19 * u) 19 i = _
        unfold cps
        rw [if_neg (by omega)]
    · refine ⟨rfl, ?_, ?_, ?_, ?_, fun i i0 i1 => ?_⟩
      · show ud (s 71) u 0 u = _
        exact ud_at
      · show ud (s 72) u k u = _
        exact ud_at
      · show ud (s 73) u n u = _
        exact ud_at
      · show ud (s 74) u v u = _
        exact ud_at
      · show cps (s 64) (s 75) 0 (19 * u) 19 (19 * u + i) = _
        unfold cps
        rw [if_pos (by omega), show 0 + (19 * u + i - 19 * u) = i by omega]
        exact hst.1 i i0 i1
theorem sX11_fail (hu : s 54 34 = u + 1) (u0 : 0 ≤ u) (u2 : u ≤ 2) (hq : Q none (PS h (up (uf s 54 34 u) 64 (cps (s 75) (s 64) (19 * u) 0 19)) r)) : cz G mX11_fail (d + 1) 0 0 [vo 54] (PS h s r) Q := by
  refine vX11_fail ?_
  have e1 : w32 (u + 1 - 1) = u := by rw [w32_id] <;> omega
  rw [ri_54_34, hu, wi_54_34, e1, ro_54_39, ri_54_34, rc_54]
  rw [show uf s 54 34 u 54 34 = u from rfl]
  refine rLoad (N := 57) (by decide) (fun s1 i K => ld_75) u0 (by omega) (by decide) ?_
  rw [atV_q]
  exact hq
/-- the frames of a call that fails -/
theorem fail_St {N0 : Int → Int} (hst : rSt w s z) (hN0 : rgN N0) (h75 : ∀ i, 0 ≤ i → i < 19 → s 75 (19 * u + i) = N0 i) : rSt w (up (uf s 54 34 u) 64 (cps (s 75) (s 64) (19 * u) 0 19)) (N0, z.2) := by
  refine ⟨fun i i0 i1 => ?_, hst.2.1, hst.2.2.1, hst.2.2.2.1, hN0⟩
  show cps (s 75) (s 64) (19 * u) 0 19 i = _
  unfold cps
  rw [if_pos (by omega), show 19 * u + (i - 0) = 19 * u + i by omega]
  exact h75 i i0 i1
end RN
