/-! THE REFERENCE'S MACHINE: its small methods -/
theorem up_uf {s : Nat → Int → Int} {a : Nat} {g : Int → Int} {k v : Int} : uf (up s a g) a k v = up s a (ud g k v) := by
  unfold uf
  rw [up_at, up_id]
theorem up_ef {s : Nat → Int → Int} {a : Nat} {g g' : Int → Int} (e : ∀ i, g i = g' i) : up s a g = up s a g' := by rw [funext e]
theorem cps_0 {g g' : Int → Int} {sp dp : Int} : cps g g' sp dp 0 = g' := by
  funext k
  unfold cps
  rw [if_neg (by omega)]
theorem cps_s {g g' : Int → Int} {sp dp n : Int} (hn : 0 ≤ n) : ud (cps g g' sp dp n) (dp + n) (g (sp + n)) = cps g g' sp dp (n + 1) := by
  funext k
  rw [ud_ap]
  unfold cps
  by_cases e : k = dp + n
  · rw [if_pos e, if_pos (by omega), e, show dp + n - dp = n by omega]
  · rw [if_neg e]
    by_cases c : dp ≤ k ∧ k < dp + n
    · rw [if_pos c, if_pos (by omega)]
    · rw [if_neg c, if_neg (by omega)]
def rFr (s s' : Nat → Int → Int) : Prop := (∀ a, a ≠ 54 → a ≠ 70 → s' a = s a) ∧ ∀ k, k ≠ 32 → k ≠ 33 → s' 54 k = s 54 k
theorem rFr_rf {s : Nat → Int → Int} : rFr s s := ⟨fun _ _ _ => rfl, fun _ _ _ => rfl⟩
theorem rFr_tr {s s' s'' : Nat → Int → Int} (h1 : rFr s s') (h2 : rFr s' s'') : rFr s s'' := ⟨fun a x y => (h2.1 a x y).trans (h1.1 a x y), fun k x y => (h2.2 k x y).trans (h1.2 k x y)⟩
theorem rFr_70 {s : Nat → Int → Int} {k v : Int} : rFr s (uf s 70 k v) := ⟨fun a _ y => up_ne y, fun _ _ _ => rfl⟩
theorem rFr_54 {s : Nat → Int → Int} {k v : Int} (hk : k = 32 ∨ k = 33) : rFr s (uf s 54 k v) := ⟨fun a y _ => up_ne y, fun j x y => by
  show ud (s 54) k v j = s 54 j
  exact ud_ne (by omega)⟩
section RM
variable {h : az_H} {s : Nat → Int → Int} {r : Nat → Int → Option Nat} {G : az_G} {d : Nat} {Q : Option az_V → az_H → Prop}
theorem sX11_in {a lo hi : Int} {hh : az_H} (h1 : lo ≤ a → a ≤ hi → Q (some (vi 1)) hh) (h0 : ¬ (lo ≤ a ∧ a ≤ hi) → Q (some (vi 0)) hh) : cz G mX11_in d 0 0 [vl a, vl lo, vl hi] hh Q := by
  refine vX11_in ?_
  by_cases c1 : a < lo
  · rw [if_pos c1]; exact h0 (by omega)
  by_cases c2 : hi < a
  · rw [if_neg c1, if_pos c2]; exact h0 (by omega)
  rw [if_neg c1, if_neg c2]; exact h1 (by omega) (by omega)
/-- with a number that was bad before -/
theorem sX11_push1 {x : Int} {l : Nat} (ht : s 54 32 = l) (hl : l < 300) (hb : s 54 33 = 1) (h0 : ∀ s', rFr s s' → s' 54 33 = 1 → Q none (PS h s' r)) : cz G mX11_push (d + 1) 0 0 [vo 54, vl x] (PS h s r) Q := by
  refine vX11_push ?_
  rw [ri_54_33, hb, if_neg (by decide)]
  refine vX11_push_21 ?_
  simp only [RB, nnR_q, atI_q, atL_q, atR_q, atO_q, atV_q, fit0, fit1, true_and, ↓reduceIte, Int.reduceEq, Int.reduceNe, Int.reduceNeg, Int.reduceLT, Int.reduceLE, Nat.reduceEqDiff, uf_pa, uq_pa, up_ap, ud_ap, Nat.reduceEqDiff, reduceCtorEq]
  refine ⟨by omega, by omega, ?_⟩
  refine h0 _ (rFr_tr (rFr_tr (rFr_54 (Or.inr rfl)) rFr_70) (rFr_54 (Or.inl rfl))) rfl
theorem sX11_push {x : Int} {st : List Int} (hs : stk st (s 70)) (ht : s 54 32 = st.length) (hl : st.length < 300) (hb : s 54 33 = 0)
    (h1 : ∀ s', fts x → rFr s s' → s' 54 33 = 0 → stk (x :: st) (s' 70) → s' 54 32 = (x :: st).length → Q none (PS h s' r)) (h0 : ∀ s', ¬ fts x → rFr s s' → s' 54 33 = 1 → Q none (PS h s' r)) : cz G mX11_push (d + 1) 0 0 [vo 54, vl x] (PS h s r) Q := by
  refine vX11_push ?_
  rw [ri_54_33, hb, if_pos rfl]
  refine sX11_in (fun c1 c2 => ?_) (fun c => ?_)
  · simp only [RB, nnR_q, atI_q, atL_q, atR_q, atO_q, atV_q, fit0, fit1, true_and, ↓reduceIte, Int.reduceEq, Int.reduceNe, Int.reduceNeg, Int.reduceLT, Int.reduceLE, Nat.reduceEqDiff, uf_pa, uq_pa, up_ap, ud_ap, Nat.reduceEqDiff, reduceCtorEq]
    rw [ht, w32_id (x := x) (by omega) (by omega), w32_id (by omega) (by omega)]
    refine ⟨by omega, by omega, ?_⟩
    rw [uf_same hb]
    refine h1 _ ⟨c1, c2⟩ (rFr_tr rFr_70 (rFr_54 (Or.inl rfl))) hb ?_ ?_
    · show stk (x :: st) (ud (s 70) st.length x)
      exact stk_psh hs ⟨c1, c2⟩
    · show ((st.length : Int) + 1) = _
      rw [List.length_cons]; omega
  · rw [atI_q, if_pos rfl]
    refine vX11_push_21 ?_
    simp only [RB, nnR_q, atI_q, atL_q, atR_q, atO_q, atV_q, fit0, fit1, true_and, ↓reduceIte, Int.reduceEq, Int.reduceNe, Int.reduceNeg, Int.reduceLT, Int.reduceLE, Nat.reduceEqDiff, uf_pa, uq_pa, up_ap, ud_ap, Nat.reduceEqDiff, reduceCtorEq]
    refine ⟨by omega, by omega, ?_⟩
    refine h0 _ (by unfold fts; omega) (rFr_tr (rFr_tr (rFr_54 (Or.inr rfl)) rFr_70) (rFr_54 (Or.inl rfl))) rfl
theorem sX11_pop {x : Int} {st : List Int} (hs : stk (x :: st) (s 70)) (ht : s 54 32 = st.length + 1) (hl : st.length < 300) (hq : Q (some (vi x)) (PS h (uf s 54 32 st.length) r)) : cz G mX11_pop d 0 0 [vo 54] (PS h s r) Q := by
  have e : w32 (s 54 32 - 1) = st.length := by rw [w32_id] <;> omega
  refine vX11_pop ?_
  simp only [RB, nnR_q, atI_q, atL_q, atR_q, atO_q, atV_q, fit0, fit1, true_and, ↓reduceIte, Int.reduceEq, Int.reduceNe, Int.reduceNeg, Int.reduceLT, Int.reduceLE, Nat.reduceEqDiff, uf_pa, uq_pa, up_ap, ud_ap, Nat.reduceEqDiff, reduceCtorEq]
  rw [e, hs.1]
  exact ⟨by omega, by omega, hq⟩
theorem sX11_two {o a b : Int} {st : List Int} (hs : stk st (s 70)) (ht : s 54 32 = st.length) (hl : st.length < 300) (hb : s 54 33 = 0) (ho : 11 ≤ o ∧ o ≤ 18) (ha : fts a) (hb' : fts b)
    (h1 : ∀ s', fts (tw o a b) → rFr s s' → s' 54 33 = 0 → stk (tw o a b :: st) (s' 70) → s' 54 32 = (tw o a b :: st).length → Q none (PS h s' r)) (h0 : ∀ s', ¬ fts (tw o a b) → rFr s s' → s' 54 33 = 1 → Q none (PS h s' r)) : cz G mX11_two (d + 2) 0 0 [vo 54, vi o, vl a, vl b] (PS h s r) Q := by
  have hm : -1000000000000000000 ≤ a * b ∧ a * b ≤ 1000000000000000000 := by
    have h1 : (a * b).natAbs ≤ 1000000000 * 1000000000 := by
      rw [Int.natAbs_mul]
      exact Nat.mul_le_mul (by omega) (by omega)
    omega
  refine vX11_two ?_
  simp only [rc_54]
  have hP : ∀ y, tw o a b = y → cz G mX11_push (d + 1) 0 0 [vo 54, vl y] (PS h s r) (fun v h1 => atV v (Q none h1)) := by
    intro y e
    subst e
    refine sX11_push hs ht hl hb (fun s' q1 q2 q3 q4 q5 => ?_) (fun s' q1 q2 q3 => ?_)
    · rw [atV_q]; exact h1 s' q1 q2 q3 q4 q5
    · rw [atV_q]; exact h0 s' q1 q2 q3
  unfold tw at hP
  by_cases c : o = 11
  · rw [if_pos c]; refine hP _ ?_; rw [if_pos c, w64_id (by omega) (by omega)]
  rw [if_neg c]
  by_cases c' : o = 12
  · rw [if_pos c']; refine hP _ ?_; rw [if_neg c, if_pos c', w64_id (by omega) (by omega)]
  rw [if_neg c']
  by_cases c2 : o = 13
  · simp only [if_neg c, if_neg c', if_pos c2] at hP ⊢
    by_cases c1 : a = 0
    · rw [if_pos c1] at hP ⊢
      by_cases c3 : b = 0
      · rw [if_pos c3] at hP ⊢; exact hP _ rfl
      · rw [if_neg c3] at hP ⊢; exact hP _ rfl
    · rw [if_neg c1] at hP ⊢; exact hP _ rfl
  rw [if_neg c2]
  by_cases c3 : o = 14
  · rw [if_pos c3]; refine hP _ ?_; rw [if_neg c, if_neg c', if_neg c2, if_pos c3, w64_id (by omega) (by omega)]
  rw [if_neg c3]
  by_cases c4 : o = 15
  · simp only [if_neg c, if_neg c', if_neg c2, if_neg c3, if_pos c4] at hP ⊢
    rw [ri_54_33, hb, if_pos rfl]
    by_cases c5 : b = 0
    · rw [if_pos c5]
      refine vX11_two_97 ?_
      rw [nnR_q, wb_54_33_1, if_pos c5, rc_54]
      have et : tw o a b = 1000000001 := by
        unfold tw
        rw [if_neg c, if_neg c', if_neg c2, if_neg c3, if_pos c4, if_pos c5]
      refine sX11_push1 (l := st.length) ht hl rfl (fun s' q1 q2 => ?_)
      rw [atV_q]
      exact h0 s' (by rw [et]; unfold fts; omega) (rFr_tr (rFr_54 (Or.inr rfl)) q1) q2
    · rw [if_neg c5] at hP ⊢
      refine vX11_two_97 ?_
      rw [nnR_q, wb_54_33_0, if_neg c5, rc_54, uf_same hb, lDiv_p ha.1 ha.2 c5 hb'.1 hb'.2]
      exact ⟨c5, hP _ rfl⟩
  rw [if_neg c4]
  by_cases c5 : o = 16
  · simp only [if_neg c, if_neg c', if_neg c2, if_neg c3, if_neg c4, if_pos c5] at hP ⊢
    by_cases c1 : a = 0
    · rw [if_pos c1] at hP ⊢; exact hP _ rfl
    · rw [if_neg c1] at hP ⊢
      by_cases c6 : b = 0
      · rw [if_pos c6] at hP ⊢; exact hP _ rfl
      · rw [if_neg c6] at hP ⊢; exact hP _ rfl
  rw [if_neg c5]
  by_cases c6 : o = 17
  · simp only [if_neg c, if_neg c', if_neg c2, if_neg c3, if_neg c4, if_neg c5, if_pos c6] at hP ⊢
    by_cases c1 : b ≤ a
    · rw [if_pos c1] at hP ⊢; exact hP _ rfl
    · rw [if_neg c1] at hP ⊢; exact hP _ rfl
  simp only [if_neg c, if_neg c', if_neg c2, if_neg c3, if_neg c4, if_neg c5, if_neg c6] at hP ⊢
  by_cases c1 : a = b
  · rw [if_pos c1] at hP ⊢; exact hP _ rfl
  · rw [if_neg c1] at hP ⊢; exact hP _ rfl
theorem rX11_sum {a : Int} {N : Int → Int} (hN : eq19 (s 64) N) (hR : rgN N) (ha : 0 ≤ a ∧ a ≤ 1) (hq : cz G mX11_push d 0 0 [vo 54, vl (N (6 + 4 * a) + N (6 + 4 * a + 1) + N (6 + 4 * a + 2) + N (6 + 4 * a + 3))] (PS h s r) (fun v h1 => atV v (Q none h1))) : pX11_reckon_155 G d 54 a 0 0 (PS h s r) Q := by
  have r0 := hR (6 + 4 * a) (by omega) (by omega)
  have r1 := hR (6 + 4 * a + 1) (by omega) (by omega)
  have r2 := hR (6 + 4 * a + 2) (by omega) (by omega)
  have r3 := hR (6 + 4 * a + 3) (by omega) (by omega)
  refine vX11_reckon_155 ?_
  rw [if_neg (by decide), ro_54_22, ld_64]
  rw [show w32 (w32 (6 + w32 (4 * a)) + 0) = 6 + 4 * a by rw [w32_id (x := 4 * a) (by omega) (by omega), w32_id (x := 6 + 4 * a) (by omega) (by omega), w32_id (by omega) (by omega)]; omega, hN _ (by omega) (by omega)]
  refine ⟨by omega, by omega, ?_⟩
  refine vX11_reckon_155 ?_
  rw [show w32 (0 + 1) = 1 by decide, if_neg (by decide), ro_54_22, ld_64]
  rw [show w32 (w32 (6 + w32 (4 * a)) + 1) = 6 + 4 * a + 1 by rw [w32_id (x := 4 * a) (by omega) (by omega), w32_id (x := 6 + 4 * a) (by omega) (by omega), w32_id (by omega) (by omega)], hN _ (by omega) (by omega)]
  refine ⟨by omega, by omega, ?_⟩
  refine vX11_reckon_155 ?_
  rw [show w32 (1 + 1) = 2 by decide, if_neg (by decide), ro_54_22, ld_64]
  rw [show w32 (w32 (6 + w32 (4 * a)) + 2) = 6 + 4 * a + 2 by rw [w32_id (x := 4 * a) (by omega) (by omega), w32_id (x := 6 + 4 * a) (by omega) (by omega), w32_id (by omega) (by omega)], hN _ (by omega) (by omega)]
  refine ⟨by omega, by omega, ?_⟩
  refine vX11_reckon_155 ?_
  rw [show w32 (2 + 1) = 3 by decide, if_neg (by decide), ro_54_22, ld_64]
  rw [show w32 (w32 (6 + w32 (4 * a)) + 3) = 6 + 4 * a + 3 by rw [w32_id (x := 4 * a) (by omega) (by omega), w32_id (x := 6 + 4 * a) (by omega) (by omega), w32_id (by omega) (by omega)], hN _ (by omega) (by omega)]
  refine ⟨by omega, by omega, ?_⟩
  refine vX11_reckon_155 ?_
  rw [show w32 (3 + 1) = 4 by decide, if_pos (by decide), rc_54]
  rw [w64_id (x := 0 + N (6 + 4 * a)) (by omega) (by omega), w64_id (x := 0 + N (6 + 4 * a) + N (6 + 4 * a + 1)) (by omega) (by omega), w64_id (x := 0 + N (6 + 4 * a) + N (6 + 4 * a + 1) + N (6 + 4 * a + 2)) (by omega) (by omega), w64_id (by omega) (by omega), Int.zero_add]
  exact hq
theorem sX11_reckon {o a who n v : Int} {N : Int → Int} {st : List Int} (hN : eq19 (s 64) N) (hR : rgN N) (hs : stk st (s 70)) (ht : s 54 32 = st.length) (hl : st.length < 299) (hb : s 54 33 = 0) (hw : 0 ≤ who ∧ who < 4)
    (ho : 1 ≤ o ∧ o ≤ 18) (hd : (o = 9 ∨ o = 10 → 1 ≤ st.length) ∧ (11 ≤ o → 2 ≤ st.length)) (ha : (o = 2 → 0 ≤ a ∧ a ≤ 7) ∧ (o = 7 → 0 ≤ a ∧ a ≤ 1) ∧ (o = 8 → 0 ≤ a ∧ a ≤ 3))
    (h1 : ∀ s' st', rk o a who n v N st = some st' → rFr s s' → s' 54 33 = 0 → stk st' (s' 70) → s' 54 32 = st'.length → Q none (PS h s' r))
    (h0 : ∀ s', rk o a who n v N st = none → rFr s s' → s' 54 33 = 1 → Q none (PS h s' r)) : cz G mX11_reckon (d + 3) 0 0 [vo 54, vi o, vi a, vi who, vi n, vi v] (PS h s r) Q := by
  refine vX11_reckon ?_
  simp only [rc_54, ro_54_22, ld_64]
  -- all that push one number on what stands
  have hP : ∀ (y : Int) (st1 : List Int) (s1 : Nat → Int → Int), rv o a who n v N st = (y, st1) → rFr s s1 → stk st1 (s1 70) → s1 54 32 = st1.length → s1 54 33 = 0 → st1.length ≤ st.length → cz G mX11_push (d + 2) 0 0 [vo 54, vl y] (PS h s1 r) (fun v h1 => atV v (Q none h1)) := by
    intro y st1 s1 e q1 q2 q3 q4 q5
    refine sX11_push q2 q3 (by omega) q4 (fun s' y1 y2 y3 y4 y5 => ?_) (fun s' y1 y2 y3 => ?_)
    · rw [atV_q]
      refine h1 s' (y :: st1) ?_ (rFr_tr q1 y2) y3 y4 y5
      unfold rk psh
      rw [e]
      exact if_pos y1
    · rw [atV_q]
      refine h0 s' ?_ (rFr_tr q1 y2) y3
      unfold rk psh
      rw [e]
      exact if_neg y1
  by_cases e : o = 1
  · rw [if_pos e]
    refine hP _ st s ?_ rFr_rf hs ht hb (Nat.le_refl _)
    unfold rv; rw [if_pos e]
  rw [if_neg e]
  by_cases e2 : o = 2
  · rw [if_pos e2]
    have ha' := ha.1 e2
    have e' : rv o a who n v N st = (N (cellI a who), st) := by unfold rv; rw [if_neg e, if_pos e2]
    unfold cellI at e'
    by_cases c6 : a < 6
    · rw [if_neg (by omega), hN _ (by omega) (by omega)]
      rw [if_pos c6] at e'
      exact ⟨by omega, by omega, hP _ st s e' rFr_rf hs ht hb (Nat.le_refl _)⟩
    · rw [if_pos (by omega)]
      rw [if_neg c6] at e'
      by_cases c7 : a = 6
      · rw [if_pos c7, w32_id (by omega) (by omega), hN _ (by omega) (by omega)]
        rw [if_pos c7] at e'
        exact ⟨by omega, by omega, hP _ st s e' rFr_rf hs ht hb (Nat.le_refl _)⟩
      · rw [if_neg c7, w32_id (by omega) (by omega), hN _ (by omega) (by omega)]
        rw [if_neg c7] at e'
        exact ⟨by omega, by omega, hP _ st s e' rFr_rf hs ht hb (Nat.le_refl _)⟩
  rw [if_neg e2]
  by_cases e3 : o = 3
  · rw [if_pos e3]
    refine hP _ st s ?_ rFr_rf hs ht hb (Nat.le_refl _)
    unfold rv; rw [if_neg e, if_neg e2, if_pos e3]
  rw [if_neg e3]
  by_cases e4 : o = 4
  · rw [if_pos e4]
    refine hP _ st s ?_ rFr_rf hs ht hb (Nat.le_refl _)
    unfold rv; rw [if_neg e, if_neg e2, if_neg e3, if_pos e4]
  rw [if_neg e4]
  by_cases e5 : o = 5
  · rw [if_pos e5]
    refine hP _ st s ?_ rFr_rf hs ht hb (Nat.le_refl _)
    unfold rv; rw [if_neg e, if_neg e2, if_neg e3, if_neg e4, if_pos e5]
  rw [if_neg e5]
  by_cases e6 : o = 6
  · rw [if_pos e6, hN _ (by omega) (by omega)]
    refine ⟨by omega, by omega, hP _ st s ?_ rFr_rf hs ht hb (Nat.le_refl _)⟩
    unfold rv; rw [if_neg e, if_neg e2, if_neg e3, if_neg e4, if_neg e5, if_pos e6]
  rw [if_neg e6]
  by_cases e7 : o = 7
  · rw [if_pos e7]
    refine rX11_sum hN hR (ha.2.1 e7) (hP _ st s ?_ rFr_rf hs ht hb (Nat.le_refl _))
    unfold rv; rw [if_neg e, if_neg e2, if_neg e3, if_neg e4, if_neg e5, if_neg e6, if_pos e7]
  rw [if_neg e7]
  by_cases e8 : o = 8
  · have ha' := ha.2.2 e8
    rw [if_pos e8, w32_id (by omega) (by omega), hN _ (by omega) (by omega)]
    refine ⟨by omega, by omega, hP _ st s ?_ rFr_rf hs ht hb (Nat.le_refl _)⟩
    unfold rv; rw [if_neg e, if_neg e2, if_neg e3, if_neg e4, if_neg e5, if_neg e6, if_neg e7, if_pos e8]
  rw [if_neg e8]
  by_cases e9 : o = 9
  · rw [if_pos e9]
    match st, hs, ht, hl, hd, hP with
    | [], _, _, _, hd, _ => exact absurd (hd.1 (Or.inl e9)) (by decide)
    | x :: st, hs, ht, hl, hd, hP =>
      have b1 : (x :: st).length = st.length + 1 := rfl
      refine sX11_pop hs (by rw [ht, b1]; omega) (by omega) ?_
      rw [atI_q]
      have e' : rv o a who n v N (x :: st) = ((if x = 0 then 1 else 0), st) := by
        unfold rv; rw [if_neg e, if_neg e2, if_neg e3, if_neg e4, if_neg e5, if_neg e6, if_neg e7, if_neg e8, if_pos e9]; rfl
      by_cases c : x = 0
      · rw [if_pos c] at e' ⊢
        rw [rc_54]
        exact hP _ st _ e' (rFr_54 (Or.inl rfl)) hs.2.2 rfl hb (by omega)
      · rw [if_neg c] at e' ⊢
        rw [rc_54]
        exact hP _ st _ e' (rFr_54 (Or.inl rfl)) hs.2.2 rfl hb (by omega)
  rw [if_neg e9]
  by_cases e10 : o = 10
  · rw [if_pos e10]
    match st, hs, ht, hl, hd, hP with
    | [], _, _, _, hd, _ => exact absurd (hd.1 (Or.inr e10)) (by decide)
    | x :: st, hs, ht, hl, hd, hP =>
      have b1 : (x :: st).length = st.length + 1 := rfl
      refine sX11_pop hs (by rw [ht, b1]; omega) (by omega) ?_
      rw [atI_q, rc_54]
      have := hs.2.1
      rw [w32_id (by omega) (by omega)]
      refine hP _ st _ ?_ (rFr_54 (Or.inl rfl)) hs.2.2 rfl hb (by omega)
      unfold rv; rw [if_neg e, if_neg e2, if_neg e3, if_neg e4, if_neg e5, if_neg e6, if_neg e7, if_neg e8, if_neg e9, if_pos e10]; rfl
  rw [if_neg e10]
  match st, hs, ht, hl, hd, h1, h0, hP with
  | [], _, _, _, hd, _, _, _ => exact absurd (hd.2 (by omega)) (by decide)
  | [x], _, _, _, hd, _, _, _ => exact absurd (hd.2 (by omega)) (by simp)
  | x :: y :: st, hs, ht, hl, hd, h1, h0, hP =>
    have b2 : (x :: y :: st).length = st.length + 2 := rfl
    have b1 : (y :: st).length = st.length + 1 := rfl
    have e' : rv o a who n v N (x :: y :: st) = (tw o y x, st) := by
      unfold rv; rw [if_neg e, if_neg e2, if_neg e3, if_neg e4, if_neg e5, if_neg e6, if_neg e7, if_neg e8, if_neg e9, if_neg e10]; rfl
    refine sX11_pop hs (by rw [ht, b2, b1]; omega) (by omega) ?_
    rw [atI_q, rc_54]
    refine sX11_pop (x := y) (st := st) hs.2.2 (by show (((y :: st).length : Nat) : Int) = _; rw [b1]; omega) (by omega) ?_
    rw [atI_q, rc_54]
    refine sX11_two (st := st) hs.2.2.2.2 rfl (by omega) hb ⟨by omega, ho.2⟩ hs.2.2.2.1 hs.2.1 (fun s' q1 q2 q3 q4 q5 => ?_) (fun s' q1 q2 q3 => ?_)
    · rw [atV_q]
      refine h1 s' (tw o y x :: st) ?_ (rFr_tr (rFr_tr (rFr_54 (Or.inl rfl)) (rFr_54 (Or.inl rfl))) q2) q3 q4 q5
      unfold rk psh
      rw [e']
      exact if_pos q1
    · rw [atV_q]
      refine h0 s' ?_ (rFr_tr (rFr_tr (rFr_54 (Or.inl rfl)) (rFr_54 (Or.inl rfl))) q2) q3
      unfold rk psh
      rw [e']
      exact if_neg q1
end RM
