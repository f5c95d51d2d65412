/-! THE CLASS'S MACHINE: its small methods -/
section CM
variable {h : az_H} {s : Nat → Int → Int} {r : Nat → Int → Option Nat} {G : az_G} {d : Nat} {Q : Option az_V → az_H → Prop}
theorem sX4_cell {x : Int} (h0 : 0 ≤ x) (h1 : x < 19) (hq : Q (some (vi (s 29 x))) (PS h s r)) : cz G mX4_cell d 0 0 [vo 27, vi x] (PS h s r) Q := by
  refine vX4_cell ?_
  rw [if_neg (by omega), if_neg (by omega)]
  simp only [RB, nnR_q, atI_q, atL_q, atR_q, atO_q, atV_q, fit0, fit1, true_and, ↓reduceIte, Int.reduceEq, Int.reduceNe, Int.reduceNeg, Int.reduceLT, Int.reduceLE, Nat.reduceEqDiff, uf_pa, uq_pa, up_ap, ud_ap, Nat.reduceEqDiff, reduceCtorEq]
  exact ⟨h0, h1, hq⟩
theorem sX4_put {x y : Int} (h0 : 0 ≤ x) (h1 : x < 19) (hq : Q none (PS h (uf s 29 x y) r)) : cz G mX4_put d 0 0 [vo 27, vi x, vi y] (PS h s r) Q := by
  refine vX4_put ?_
  rw [if_neg (by omega), if_neg (by omega)]
  simp only [RB, nnR_q, atI_q, atL_q, atR_q, atO_q, atV_q, fit0, fit1, true_and, ↓reduceIte, Int.reduceEq, Int.reduceNe, Int.reduceNeg, Int.reduceLT, Int.reduceLE, Nat.reduceEqDiff, uf_pa, uq_pa, up_ap, ud_ap, Nat.reduceEqDiff, reduceCtorEq]
  exact ⟨h0, h1, hq⟩
theorem sX4_pop {x : Int} {st : List Int} (hs : stk (x :: st) (s 34)) (ht : s 27 5 = st.length + 1) (hl : st.length < 32) (hq : Q (some (vl x)) (PS h (uf s 27 5 st.length) r)) : cz G mX4_pop d 0 0 [vo 27] (PS h s r) Q := by
  have e : w32 (s 27 5 - 1) = st.length := by rw [w32_id] <;> omega
  refine vX4_pop ?_
  simp only [RB, nnR_q, atI_q, atL_q, atR_q, atO_q, atV_q, fit0, fit1, true_and, ↓reduceIte, Int.reduceEq, Int.reduceNe, Int.reduceNeg, Int.reduceLT, Int.reduceLE, Nat.reduceEqDiff, uf_pa, uq_pa, up_ap, ud_ap, Nat.reduceEqDiff, reduceCtorEq]
  rw [if_neg (by omega), if_pos (by omega), e, hs.1]
  exact ⟨by omega, by omega, hq⟩
theorem sX4_zero {x : Int} {st : List Int} (hs : stk (x :: st) (s 34)) (ht : s 27 5 = st.length + 1) (hl : st.length < 32) (h0 : x = 0 → Q (some (vi 1)) (PS h s r)) (h1 : x ≠ 0 → Q (some (vi 0)) (PS h s r)) : cz G mX4_isZeroOnTop d 0 0 [vo 27] (PS h s r) Q := by
  have e : w32 (s 27 5 - 1) = st.length := by rw [w32_id] <;> omega
  refine vX4_isZeroOnTop ?_
  simp only [RB, nnR_q, atI_q, atL_q, atR_q, atO_q, atV_q, fit0, fit1, true_and, ↓reduceIte, Int.reduceEq, Int.reduceNe, Int.reduceNeg, Int.reduceLT, Int.reduceLE, Nat.reduceEqDiff, uf_pa, uq_pa, up_ap, ud_ap, Nat.reduceEqDiff, reduceCtorEq]
  rw [if_neg (by omega), if_neg (by omega), e, hs.1]
  refine ⟨by omega, by omega, ?_⟩
  by_cases c : x = 0
  · rw [if_pos c]; exact h0 c
  · rw [if_neg c]; exact h1 c
theorem sX4_push {x : Int} {st : List Int} (ht : s 27 5 = st.length) (hl : st.length < 32) (h1 : fts x → Q (some (vi 1)) (PS h (uf (uf s 34 st.length x) 27 5 (st.length + 1)) r)) (h0 : ¬ fts x → Q (some (vi 0)) (PS h s r)) : cz G mX4_push d 0 0 [vo 27, vl x] (PS h s r) Q := by
  refine vX4_push ?_
  by_cases c1 : x < -1000000000
  · rw [if_pos c1]; exact h0 (by omega)
  by_cases c2 : 1000000000 < x
  · rw [if_neg c1, if_pos c2]; exact h0 (by omega)
  rw [if_neg c1, if_neg c2]
  simp only [RB, nnR_q, atI_q, atL_q, atR_q, atO_q, atV_q, fit0, fit1, true_and, ↓reduceIte, Int.reduceEq, Int.reduceNe, Int.reduceNeg, Int.reduceLT, Int.reduceLE, Nat.reduceEqDiff, uf_pa, uq_pa, up_ap, ud_ap, Nat.reduceEqDiff, reduceCtorEq]
  rw [if_neg (by omega), if_pos (by omega), ht, w32_id (by omega) (by omega)]
  exact ⟨by omega, by omega, h1 (by omega)⟩
theorem sX4_operate {o a b : Int} (ho : 11 ≤ o ∧ o ≤ 18) (ha : fts a) (hb : fts b) (hq : Q (some (vl (tw o a b))) h) : cz G mX4_operate d 0 0 [vi (o - 1), vl a, vl b] h Q := by
  have hm : -1000000000000000000 ≤ a * b ∧ a * b ≤ 1000000000000000000 := by
    have h1 : (a * b).natAbs ≤ 1000000000 * 1000000000 := by
      rw [Int.natAbs_mul]
      exact Nat.mul_le_mul (by omega) (by omega)
    omega
  refine vX4_operate ?_
  unfold tw at hq
  by_cases c : o = 11
  · subst c; rw [if_pos rfl] at hq; rw [if_pos (by decide), w64_id (by omega) (by omega)]; exact hq
  rw [if_neg c] at hq; rw [if_neg (by omega)]
  by_cases c : o = 12
  · subst c; rw [if_pos rfl] at hq; rw [if_pos (by decide), w64_id (by omega) (by omega)]; exact hq
  rw [if_neg c] at hq; rw [if_neg (by omega)]
  by_cases c : o = 13
  · subst c; rw [if_pos rfl] at hq; rw [if_pos (by decide)]
    by_cases c1 : a = 0
    · rw [if_pos c1] at hq ⊢
      by_cases c2 : b = 0
      · rw [if_pos c2] at hq ⊢; exact hq
      · rw [if_neg c2] at hq ⊢; exact hq
    · rw [if_neg c1] at hq ⊢; exact hq
  rw [if_neg c] at hq; rw [if_neg (by omega)]
  by_cases c : o = 14
  · subst c; rw [if_pos rfl] at hq; rw [if_pos (by decide), w64_id (by omega) (by omega)]; exact hq
  rw [if_neg c] at hq; rw [if_neg (by omega)]
  by_cases c : o = 15
  · subst c; rw [if_pos rfl] at hq; rw [if_pos (by decide)]
    by_cases c2 : b = 0
    · rw [if_pos c2] at hq ⊢; exact hq
    · rw [if_neg c2] at hq ⊢
      rw [lDiv_p ha.1 ha.2 c2 hb.1 hb.2]
      exact ⟨c2, hq⟩
  rw [if_neg c] at hq; rw [if_neg (by omega)]
  by_cases c : o = 16
  · subst c; rw [if_pos rfl] at hq; rw [if_pos (by decide)]
    by_cases c1 : a = 0
    · rw [if_pos c1] at hq ⊢; exact hq
    · rw [if_neg c1] at hq ⊢
      by_cases c2 : b = 0
      · rw [if_pos c2] at hq ⊢; exact hq
      · rw [if_neg c2] at hq ⊢; exact hq
  rw [if_neg c] at hq; rw [if_neg (by omega)]
  by_cases c : o = 17
  · subst c; rw [if_pos rfl] at hq; rw [if_pos (by decide)]
    by_cases c1 : b ≤ a
    · rw [if_pos c1] at hq ⊢; exact hq
    · rw [if_neg c1] at hq ⊢; exact hq
  rw [if_neg c] at hq; rw [if_neg (by omega), if_pos (by omega)]
  by_cases c1 : a = b
  · rw [if_pos c1] at hq ⊢; exact hq
  · rw [if_neg c1] at hq ⊢; exact hq
/-- the numbers of a state are ints -/
def rgN (N : Int → Int) : Prop := ∀ k, 0 ≤ k → k < 19 → -2147483648 ≤ N k ∧ N k < 2147483648
def eq19 (g N : Int → Int) : Prop := ∀ k, 0 ≤ k → k < 19 → g k = N k
theorem sX4_reckon {o a who n v : Int} {N : Int → Int} {st : List Int} {c : Nat} (hN : eq19 (s 29) N) (hR : rgN N) (hs : stk st (s 34)) (ht : s 27 5 = st.length) (hl : st.length < 33) (hw : 0 ≤ who ∧ who < 4) {k : Int}
    (hc : ∀ s', (PS h s' r).1 c = cO 0 [vi who, vi k, vi n, vi v])
    (ho : 1 ≤ o ∧ o ≤ 18) (hd : (o = 9 ∨ o = 10 → 1 ≤ st.length) ∧ (11 ≤ o → 2 ≤ st.length)) (ha : (o = 2 → 0 ≤ a ∧ a ≤ 7) ∧ (o = 7 → 0 ≤ a ∧ a ≤ 1) ∧ (o = 8 → 0 ≤ a ∧ a ≤ 3))
    (hq : Q (some (vl (rv o a who n v N st).1)) (PS h (uf s 27 5 (rv o a who n v N st).2.length) r)) : cz G mX4_reckon (d + 1) 0 0 [vo 27, vi (tO o a), vi (tA o a), vr (some c)] (PS h s r) Q := by
  have es : uf s 27 5 st.length = s := uf_same ht
  have c0 : ∀ K s', rdI (PS h s' r) c 0 0 K = K who := fun K s' => rdI_q (hc s') rfl
  have c2 : ∀ K s', rdI (PS h s' r) c 0 2 K = K n := fun K s' => rdI_q (hc s') rfl
  have c3 : ∀ K s', rdI (PS h s' r) c 0 3 K = K v := fun K s' => rdI_q (hc s') rfl
  refine vX4_reckon ?_
  unfold rv at hq
  unfold tO tA
  by_cases e : o = 1
  · subst e; simp only [↓reduceIte, es] at hq ⊢; exact hq
  by_cases e : o = 2
  · subst e
    have ha' := ha.1 rfl
    simp only [↓reduceIte, Int.reduceEq, es] at hq ⊢
    unfold cellI at hq
    by_cases c6 : a < 6
    · simp only [if_pos c6, Int.reduceEq, ↓reduceIte, RB] at hq ⊢
      refine sX4_cell (by omega) (by omega) ?_
      rw [hN _ (by omega) (by omega)]
      exact hq
    · simp only [if_neg c6, Int.reduceEq, ↓reduceIte, RB, nnR_q, c0] at hq ⊢
      by_cases c7 : a = 6
      · simp only [if_pos c7] at hq ⊢
        rw [w32_id (by omega) (by omega)]
        refine sX4_cell (by omega) (by omega) ?_
        rw [hN _ (by omega) (by omega)]
        exact hq
      · simp only [if_neg c7] at hq ⊢
        rw [w32_id (by omega) (by omega)]
        refine sX4_cell (by omega) (by omega) ?_
        rw [hN _ (by omega) (by omega)]
        exact hq
  by_cases e : o = 3
  · subst e; simp only [↓reduceIte, Int.reduceEq, es, nnR_q, c2] at hq ⊢; exact hq
  by_cases e : o = 4
  · subst e; simp only [↓reduceIte, Int.reduceEq, es, nnR_q, c3] at hq ⊢; exact hq
  by_cases e : o = 5
  · subst e; simp only [↓reduceIte, Int.reduceEq, es, nnR_q, c0] at hq ⊢; exact hq
  by_cases e : o = 6
  · subst e
    simp only [↓reduceIte, Int.reduceEq, es, RB] at hq ⊢
    refine sX4_cell (by omega) (by omega) ?_
    rw [hN _ (by omega) (by omega)]
    exact hq
  by_cases e : o = 7
  · subst e
    have ha' := ha.2.1 rfl
    simp only [↓reduceIte, Int.reduceEq, es, RB] at hq ⊢
    refine sX4_cell (by omega) (by omega) ?_
    simp only [RB, nnR_q, atI_q, atL_q, atR_q, atO_q, atV_q, fit0, fit1, true_and, ↓reduceIte, Int.reduceEq, Int.reduceNe, Int.reduceNeg, Int.reduceLT, Int.reduceLE, Nat.reduceEqDiff, uf_pa, uq_pa, up_ap, ud_ap, Nat.reduceEqDiff, reduceCtorEq]
    rw [w32_id (by omega) (by omega)]
    refine sX4_cell (by omega) (by omega) ?_
    simp only [RB, nnR_q, atI_q, atL_q, atR_q, atO_q, atV_q, fit0, fit1, true_and, ↓reduceIte, Int.reduceEq, Int.reduceNe, Int.reduceNeg, Int.reduceLT, Int.reduceLE, Nat.reduceEqDiff, uf_pa, uq_pa, up_ap, ud_ap, Nat.reduceEqDiff, reduceCtorEq]
    rw [w32_id (by omega) (by omega)]
    refine sX4_cell (by omega) (by omega) ?_
    simp only [RB, nnR_q, atI_q, atL_q, atR_q, atO_q, atV_q, fit0, fit1, true_and, ↓reduceIte, Int.reduceEq, Int.reduceNe, Int.reduceNeg, Int.reduceLT, Int.reduceLE, Nat.reduceEqDiff, uf_pa, uq_pa, up_ap, ud_ap, Nat.reduceEqDiff, reduceCtorEq]
    rw [w32_id (by omega) (by omega)]
    refine sX4_cell (by omega) (by omega) ?_
    simp only [RB, nnR_q, atI_q, atL_q, atR_q, atO_q, atV_q, fit0, fit1, true_and, ↓reduceIte, Int.reduceEq, Int.reduceNe, Int.reduceNeg, Int.reduceLT, Int.reduceLE, Nat.reduceEqDiff, uf_pa, uq_pa, up_ap, ud_ap, Nat.reduceEqDiff, reduceCtorEq]
    rw [hN _ (by omega) (by omega), hN _ (by omega) (by omega), hN _ (by omega) (by omega), hN _ (by omega) (by omega)]
    have r0 := hR (6 + 4 * a) (by omega) (by omega)
    have r1 := hR (6 + 4 * a + 1) (by omega) (by omega)
    have r2 := hR (6 + 4 * a + 2) (by omega) (by omega)
    have r3 := hR (6 + 4 * a + 3) (by omega) (by omega)
    rw [w64_id (x := N (6 + 4 * a) + N (6 + 4 * a + 1)) (by omega) (by omega), w64_id (x := N (6 + 4 * a) + N (6 + 4 * a + 1) + N (6 + 4 * a + 2)) (by omega) (by omega), w64_id (by omega) (by omega)]
    exact hq
  by_cases e : o = 8
  · subst e
    have ha' := ha.2.2 rfl
    simp only [↓reduceIte, Int.reduceEq, es, RB] at hq ⊢
    refine sX4_cell (by omega) (by omega) ?_
    rw [hN _ (by omega) (by omega)]
    exact hq
  by_cases e : o = 9
  · subst e
    match st, hs, ht, hl, hd, hq with
    | [], _, _, _, hd, _ => exact absurd (hd.1 (Or.inl rfl)) (by decide)
    | x :: st, hs, ht, hl, hd, hq =>
      simp only [↓reduceIte, Int.reduceEq, Int.reduceSub, RB, List.headD_cons, List.tail_cons] at hq ⊢
      refine sX4_pop hs (by rw [ht, List.length_cons]; omega) (by rw [List.length_cons] at hl; omega) ?_
      simp only [RB, nnR_q, atI_q, atL_q, atR_q, atO_q, atV_q, fit0, fit1, true_and, ↓reduceIte, Int.reduceEq, Int.reduceNe, Int.reduceNeg, Int.reduceLT, Int.reduceLE, Nat.reduceEqDiff, uf_pa, uq_pa, up_ap, ud_ap, Nat.reduceEqDiff, reduceCtorEq]
      by_cases c : x = 0
      · simp only [c, ↓reduceIte] at hq ⊢; exact hq
      · simp only [c, ↓reduceIte] at hq ⊢; exact hq
  by_cases e : o = 10
  · subst e
    match st, hs, ht, hl, hd, hq with
    | [], _, _, _, hd, _ => exact absurd (hd.1 (Or.inr rfl)) (by decide)
    | x :: st, hs, ht, hl, hd, hq =>
      simp only [↓reduceIte, Int.reduceEq, Int.reduceSub, RB, List.headD_cons, List.tail_cons] at hq ⊢
      refine sX4_pop hs (by rw [ht, List.length_cons]; omega) (by rw [List.length_cons] at hl; omega) ?_
      simp only [RB, nnR_q, atI_q, atL_q, atR_q, atO_q, atV_q, fit0, fit1, true_and, ↓reduceIte, Int.reduceEq, Int.reduceNe, Int.reduceNeg, Int.reduceLT, Int.reduceLE, Nat.reduceEqDiff, uf_pa, uq_pa, up_ap, ud_ap, Nat.reduceEqDiff, reduceCtorEq]
      have := hs.2.1
      rw [w64_id (by omega) (by omega)]
      exact hq
  match st, hs, ht, hl, hd, hq with
  | [], _, _, _, hd, _ => exact absurd (hd.2 (by omega)) (by decide)
  | [x], _, _, _, hd, _ => exact absurd (hd.2 (by omega)) (by simp)
  | x :: y :: st, hs, ht, hl, hd, hq =>
    have b2 : (x :: y :: st).length = st.length + 2 := rfl
    have b1 : (y :: st).length = st.length + 1 := rfl
    have n1 : o - 1 ≠ 1 ∧ o - 1 ≠ 2 ∧ o - 1 ≠ 3 ∧ o - 1 ≠ 4 ∧ o - 1 ≠ 5 ∧ o - 1 ≠ 6 ∧ o - 1 ≠ 7 ∧ o - 1 ≠ 8 ∧ o - 1 ≠ 9 := by omega
    have n2 : o ≠ 1 ∧ o ≠ 2 ∧ o ≠ 3 ∧ o ≠ 4 ∧ o ≠ 5 ∧ o ≠ 6 ∧ o ≠ 7 ∧ o ≠ 8 ∧ o ≠ 9 ∧ o ≠ 10 := by omega
    simp only [n1, n2, ↓reduceIte, RB, List.headD_cons, List.tail_cons] at hq ⊢
    refine sX4_pop hs (by rw [ht, b2, b1]; omega) (by omega) ?_
    simp only [RB, nnR_q, atI_q, atL_q, atR_q, atO_q, atV_q, fit0, fit1, true_and, ↓reduceIte, Int.reduceEq, Int.reduceNe, Int.reduceNeg, Int.reduceLT, Int.reduceLE, Nat.reduceEqDiff, uf_pa, uq_pa, up_ap, ud_ap, Nat.reduceEqDiff, reduceCtorEq]
    refine sX4_pop (x := y) (st := st) ?_ ?_ (by omega) ?_
    · simp only [RB, nnR_q, atI_q, atL_q, atR_q, atO_q, atV_q, fit0, fit1, true_and, ↓reduceIte, Int.reduceEq, Int.reduceNe, Int.reduceNeg, Int.reduceLT, Int.reduceLE, Nat.reduceEqDiff, uf_pa, uq_pa, up_ap, ud_ap, Nat.reduceEqDiff, reduceCtorEq]
      exact hs.2.2
    · simp only [RB, nnR_q, atI_q, atL_q, atR_q, atO_q, atV_q, fit0, fit1, true_and, ↓reduceIte, Int.reduceEq, Int.reduceNe, Int.reduceNeg, Int.reduceLT, Int.reduceLE, Nat.reduceEqDiff, uf_pa, uq_pa, up_ap, ud_ap, Nat.reduceEqDiff, reduceCtorEq]
      rw [b1]
      omega
    simp only [RB, nnR_q, atI_q, atL_q, atR_q, atO_q, atV_q, fit0, fit1, true_and, ↓reduceIte, Int.reduceEq, Int.reduceNe, Int.reduceNeg, Int.reduceLT, Int.reduceLE, Nat.reduceEqDiff, uf_pa, uq_pa, up_ap, ud_ap, Nat.reduceEqDiff, reduceCtorEq]
    refine sX4_operate (by omega) hs.2.2.2.1 hs.2.1 ?_
    simp only [RB, nnR_q, atI_q, atL_q, atR_q, atO_q, atV_q, fit0, fit1, true_and, ↓reduceIte, Int.reduceEq, Int.reduceNe, Int.reduceNeg, Int.reduceLT, Int.reduceLE, Nat.reduceEqDiff, uf_pa, uq_pa, up_ap, ud_ap, Nat.reduceEqDiff, reduceCtorEq]
    rw [uf_uf]
    exact hq
end CM
