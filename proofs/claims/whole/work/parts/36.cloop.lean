/-! THE CLASS'S MACHINE: the loop over a code, calls within calls -/
def cSt (w : Int) (s : Nat → Int → Int) (z : Z3) : Prop := eq19 (s 29) z.1 ∧ metR (s 24) z.2.1 ∧ s 22 5 = z.2.2 ∧ s 22 4 = w ∧ rgN z.1
theorem cSt_fr {w : Int} {s s' : Nat → Int → Int} {z : Z3} (h1 : s' 29 = s 29) (h2 : s' 24 = s 24) (h3 : s' 22 = s 22) (hs : cSt w s z) : cSt w s' z := by
  unfold cSt at *
  rw [h1, h2, h3]
  exact hs
def frM (q : Nat) (s s' : Nat → Int → Int) : Prop := ∀ a, a ≠ 22 → a ≠ 24 → a ≠ 27 → a ≠ 29 → a ≠ 34 → ¬ (q ≤ a ∧ a ≤ 33) → s' a = s a
theorem frM_tr {q q' : Nat} {s s' s'' : Nat → Int → Int} (hq : q ≤ q') (h1 : frM q s s') (h2 : frM q' s' s'') : frM q s s'' := fun a x1 x2 x3 x4 x5 x6 => (h2 a x1 x2 x3 x4 x5 (by omega)).trans (h1 a x1 x2 x3 x4 x5 x6)
theorem frM_tl {q q' : Nat} {s s' s'' : Nat → Int → Int} (hq : q ≤ q') (h1 : frM q' s s') (h2 : frM q s' s'') : frM q s s'' := fun a x1 x2 x3 x4 x5 x6 => (h2 a x1 x2 x3 x4 x5 x6).trans (h1 a x1 x2 x3 x4 x5 (by omega))
theorem frM_rf {q : Nat} {s : Nat → Int → Int} : frM q s s := fun _ _ _ _ _ _ _ => rfl
theorem frM_up {q b : Nat} {s : Nat → Int → Int} {g : Int → Int} (hb : b = 22 ∨ b = 24 ∨ b = 27 ∨ b = 29 ∨ b = 34 ∨ (q ≤ b ∧ b ≤ 33)) : frM q s (up s b g) := fun a x1 x2 x3 x4 x5 x6 => up_ne (by omega)
theorem frM_uf {q b : Nat} {s : Nat → Int → Int} {k v : Int} (hb : b = 22 ∨ b = 24 ∨ b = 27 ∨ b = 29 ∨ b = 34 ∨ (q ≤ b ∧ b ≤ 33)) : frM q s (uf s b k v) := frM_up hb
def CEnv (h : az_H) (r : Nat → Int → Option Nat) (cs : Int → Option Cd) (hk : Int → Option (Int × Int)) : Prop :=
  (∀ k, 0 ≤ k → k < 6 → (cs k = none → r 23 k = none) ∧ ∀ c, cs k = some c → ∃ b lv, r 23 k = some b ∧ cCode h b lv c ∧ wfC c 0) ∧
  ∀ i, 0 ≤ i → i < 4 → (hk i = none → r 26 i = none) ∧ ∀ q, hk i = some q → (0 ≤ q.1 ∧ q.1 < 6) ∧ ∃ b, r 26 i = some b ∧ 89 ≤ b ∧ h.1 b = cO 0 [vi i, vi q.1, vi q.2, vi 0]
def isCl (h : az_H) (r : Nat → Int → Option Nat) (b : Nat) (who k n v : Int) : Prop := ∀ s', (PS h s' r).1 b = cO 0 [vi who, vi k, vi n, vi v]
def hfZ (w : Int) (cs : Int → Option Cd) (hk : Int → Option (Int × Int)) (m : Nat) (who : Int) : Z3 → Z3 := fun z' => match hk who with | none => z' | some q => (perf w cs hk m who q.1 q.2 0 z').2
def PFs (G : az_G) (h : az_H) (r : Nat → Int → Option Nat) (w : Int) (cs : Int → Option Cd) (hk : Int → Option (Int × Int)) (e m : Nat) : Prop :=
  ∀ (s : Nat → Int → Int) (z : Z3) (b : Nat) (who k n v : Int) (Q : Option az_V → az_H → Prop), cSt w s z → isCl h r b who k n v → 0 ≤ who ∧ who < 4 → 0 ≤ k ∧ k < 6 →
  (∀ s', cSt w s' (perf w cs hk (m + 1) who k n v z).2 → frM (33 - m) s s' → (s 27 5 = 0 → s' 27 5 = 0) → Q (some (vi (if (perf w cs hk (m + 1) who k n v z).1 then 1 else 0))) (PS h s' r)) →
  cz G mX4_perform (e + 3 * m + 4) 0 0 [vo 27, vo b, vi (3 - (m : Int))] (PS h s r) Q
theorem rgN_ud {N : Int → Int} {k x : Int} (hN : rgN N) (h0 : -2147483648 ≤ x) (h1 : x < 2147483648) : rgN (ud N k x) := by
  intro j j0 j1
  rw [ud_ap]
  split
  · exact ⟨h0, h1⟩
  · exact hN j j0 j1
theorem eq19_ud {g N : Int → Int} {k x : Int} (hN : eq19 g N) : eq19 (ud g k x) (ud N k x) := by
  intro j j0 j1
  rw [ud_ap, ud_ap, hN j j0 j1]
section CL
variable {h : az_H} {s : Nat → Int → Int} {r : Nat → Int → Option Nat} {G : az_G} {d e m : Nat} {Q : Option az_V → az_H → Prop} {w : Int} {cs : Int → Option Cd} {hk : Int → Option (Int × Int)} {z : Z3}
theorem sX9_hookOf {i : Int} (h0 : 0 ≤ i) (h1 : i < 4) (hq : Q (some (vr (r 26 i))) (PS h s r)) : cz G mX9_hookOf d 0 0 [vo 22, vi i] (PS h s r) Q := by
  refine vX9_hookOf ?_
  rw [if_neg (by omega), if_neg (by omega)]
  simp only [RB, nnR_q, atI_q, atL_q, atR_q, atO_q, atV_q, fit0, fit1, true_and, ↓reduceIte, Int.reduceEq, Int.reduceNe, Int.reduceNeg, Int.reduceLT, Int.reduceLE, Nat.reduceEqDiff, uf_pa, uq_pa, up_ap, ud_ap, Nat.reduceEqDiff, reduceCtorEq]
  exact ⟨h0, h1, hq⟩
theorem sX9_codeOf {i : Int} (h0 : 0 ≤ i) (h1 : i < 6) (hq : Q (some (vr (r 23 i))) (PS h s r)) : cz G mX9_codeOf d 0 0 [vo 22, vi i] (PS h s r) Q := by
  refine vX9_codeOf ?_
  rw [if_neg (by omega), if_neg (by omega)]
  simp only [RB, nnR_q, atI_q, atL_q, atR_q, atO_q, atV_q, fit0, fit1, true_and, ↓reduceIte, Int.reduceEq, Int.reduceNe, Int.reduceNeg, Int.reduceLT, Int.reduceLE, Nat.reduceEqDiff, uf_pa, uq_pa, up_ap, ud_ap, Nat.reduceEqDiff, reduceCtorEq]
  exact ⟨h0, h1, hq⟩
theorem cPay (hE : CEnv h r cs hk) (hm : m ≤ 2) (hp : ∀ m', m = m' + 1 → PFs G h r w cs hk e m') (hst : cSt w s z) {bc : Nat} {who k n v x : Int} (hc : isCl h r bc who k n v) (hw : 0 ≤ who ∧ who < 4) (hx : fts x) (ht : s 27 5 = 0)
    (hq0 : x < 0 ∨ z.1 18 < x → Q (some (vi 0)) (PS h s r))
    (hq1 : 0 ≤ x → x ≤ z.1 18 → ∀ s', cSt w s' (hfZ w cs hk m who (payZ who x z)) → frM (34 - m) s s' → s' 27 5 = 0 → Q (some (vi 1)) (PS h s' r)) :
    cz G mX4_pay (e + 3 * m + 2) 0 0 [vo 27, vr (some bc), vl x, vi (3 - (m : Int))] (PS h s r) Q := by
  refine vX4_pay (d := e + 3 * m + 1) ?_
  have c0 : ∀ K s', rdI (PS h s' r) bc 0 0 K = K who := fun K s' => rdI_q (hc s') rfl
  obtain ⟨hN, hM, h5, h4, hR⟩ := hst
  have r18 := hR 18 (by decide) (by decide)
  by_cases cx : x < 0
  · rw [if_pos cx]; exact hq0 (Or.inl cx)
  rw [if_neg cx]
  simp only [RB, nnR_q, atI_q, atL_q, atR_q, atO_q, atV_q, fit0, fit1, true_and, ↓reduceIte, Int.reduceEq, Int.reduceNe, Int.reduceNeg, Int.reduceLT, Int.reduceLE, Nat.reduceEqDiff, uf_pa, uq_pa, up_ap, ud_ap, Nat.reduceEqDiff, reduceCtorEq]
  rw [hN 18 (by decide) (by decide)]
  by_cases cy : x ≤ z.1 18
  · rw [if_pos cy]
    replace hq1 := hq1 (by omega) cy
    simp only [c0]
    rw [w32_id (x := 14 + who) (by omega) (by omega), w32_id (x := x) (by omega) (by omega)]
    refine sX4_cell (by omega) (by omega) ?_
    simp only [RB, nnR_q, atI_q, atL_q, atR_q, atO_q, atV_q, fit0, fit1, true_and, ↓reduceIte, Int.reduceEq, Int.reduceNe, Int.reduceNeg, Int.reduceLT, Int.reduceLE, Nat.reduceEqDiff, uf_pa, uq_pa, up_ap, ud_ap, Nat.reduceEqDiff, reduceCtorEq]
    rw [if_neg (by omega), hN _ (by omega) (by omega)]
    refine sX4_put (by omega) (by omega) ?_
    simp only [RB, nnR_q, atI_q, atL_q, atR_q, atO_q, atV_q, fit0, fit1, true_and, ↓reduceIte, Int.reduceEq, Int.reduceNe, Int.reduceNeg, Int.reduceLT, Int.reduceLE, Nat.reduceEqDiff, uf_pa, uq_pa, up_ap, ud_ap, Nat.reduceEqDiff, reduceCtorEq, c0]
    refine sX9_hookOf hw.1 hw.2 ?_
    simp only [RB, nnR_q, atI_q, atL_q, atR_q, atO_q, atV_q, fit0, fit1, true_and, ↓reduceIte, Int.reduceEq, Int.reduceNe, Int.reduceNeg, Int.reduceLT, Int.reduceLE, Nat.reduceEqDiff, uf_pa, uq_pa, up_ap, ud_ap, Nat.reduceEqDiff, reduceCtorEq]
    generalize hs1 : uf (uf s 29 18 (w32 (z.1 18 - x))) 29 (14 + who) (w32 (z.1 (14 + who) + x)) = s1
    have e29 : s1 29 = ud (ud (s 29) 18 (w32 (z.1 18 - x))) (14 + who) (w32 (z.1 (14 + who) + x)) := by rw [← hs1]; rfl
    have hst1 : cSt w s1 (payZ who x z) := by
      refine ⟨?_, ?_, ?_, ?_, ?_⟩
      · rw [e29]; exact eq19_ud (eq19_ud hN)
      · rw [← hs1]; exact hM
      · rw [← hs1]; exact h5
      · rw [← hs1]; exact h4
      · exact rgN_ud (rgN_ud hR (w32_lo _) (w32_hi _)) (w32_lo _) (w32_hi _)
    have hfr1 : frM (34 - m) s s1 := by
      rw [← hs1]
      exact frM_tr (Nat.le_refl _) (frM_uf (by omega)) (frM_uf (by omega))
    have ht1 : s1 27 5 = 0 := by rw [← hs1]; exact ht
    have hH := hE.2 who hw.1 hw.2
    unfold hfZ at hq1
    cases hkw : hk who with
    | none =>
      rw [hH.1 hkw]
      simp only [hkw] at hq1
      exact hq1 s1 hst1 hfr1 ht1
    | some q =>
      obtain ⟨hq6, b, hb, hb9, hbc⟩ := hH.2 q hkw
      rw [hb]
      simp only [hkw] at hq1
      by_cases c3 : 3 ≤ 3 - (m : Int)
      · simp only [if_pos c3]
        have : m = 0 := by omega
        subst this
        exact hq1 s1 hst1 hfr1 ht1
      · obtain ⟨m', rfl⟩ : ∃ m', m = m' + 1 := ⟨m - 1, by omega⟩
        simp only [if_neg c3]
        have e3 : w32 (3 - ((m' + 1 : Nat) : Int) + 1) = 3 - (m' : Int) := by rw [w32_id] <;> omega
        rw [e3]
        refine hp m' rfl s1 (payZ who x z) b who q.1 q.2 0 _ hst1 (fun s' => (PS_out hb9).trans hbc) hw hq6 (fun s' q1 q2 q3 => ?_)
        simp only [RB, nnR_q, atI_q, atL_q, atR_q, atO_q, atV_q, fit0, fit1, true_and, ↓reduceIte, Int.reduceEq, Int.reduceNe, Int.reduceNeg, Int.reduceLT, Int.reduceLE, Nat.reduceEqDiff, uf_pa, uq_pa, up_ap, ud_ap, Nat.reduceEqDiff, reduceCtorEq]
        exact hq1 s' q1 (frM_tr (q' := 33 - m') (by omega) hfr1 q2) (q3 ht1)
  · rw [if_neg cy]; exact hq0 (Or.inr (by omega))
end CL
