/-! THE CLASS'S MACHINE: what was met, and the loop -/
def metR (g m : Int → Int) : Prop := ∀ k, 0 ≤ k → k < 6 → (0 ≤ g k ∧ g k < 16777216) ∧ ∀ l, 0 ≤ l → l < 24 → m (24 * k + l) = g k / 2 ^ l.toNat % 2
theorem bit_get {e l : Int} (h0 : 0 ≤ e) (h1 : e < 16777216) (l0 : 0 ≤ l) (l1 : l < 24) : bAnd (bShr e l) 1 = e / 2 ^ l.toNat % 2 := by
  rw [bAnd_1, bShr_n e l l0 (by omega) h0 (by omega), Nat.shiftRight_eq_div_pow, Int.natCast_ediv, Int.toNat_of_nonneg h0, Int.natCast_pow]
  rfl
theorem bit_put {e l : Int} (h0 : 0 ≤ e) (h1 : e < 16777216) (l0 : 0 ≤ l) (l1 : l < 24) : (0 ≤ bOr e (bShl 1 l) ∧ bOr e (bShl 1 l) < 16777216) ∧ ∀ j : Int, 0 ≤ j → j < 24 → bOr e (bShl 1 l) / 2 ^ j.toNat % 2 = if j = l then 1 else e / 2 ^ j.toNat % 2 := by
  obtain ⟨n, rfl⟩ : ∃ n : Nat, e = n := ⟨e.toNat, by omega⟩
  obtain ⟨i, rfl⟩ : ∃ i : Nat, l = i := ⟨l.toNat, by omega⟩
  have hi : (2 : Nat) ^ i < 16777216 := by
    have : ∀ m : Fin 24, (2 : Nat) ^ m.val < 16777216 := by decide
    exact this ⟨i, by omega⟩
  have e1 : bShl 1 (i : Int) = ((2 ^ i : Nat) : Int) := by
    rw [bShl_n 1 i (by omega) (by omega)]
    show w32 (((1 : Nat) <<< (i : Int).toNat : Nat) : Int) = _
    rw [Int.toNat_natCast, Nat.shiftLeft_eq, Nat.one_mul]
    generalize (2 : Nat) ^ i = p at hi ⊢
    exact w32_id (by omega) (by omega)
  have hb : n ||| 2 ^ i < 16777216 := Nat.or_lt_two_pow (n := 24) (by omega) hi
  have e2 : bOr (n : Int) (bShl 1 (i : Int)) = ((n ||| 2 ^ i : Nat) : Int) := by
    rw [e1]
    generalize (2 : Nat) ^ i = p at hi hb ⊢
    rw [bOr_n, Int.emod_eq_of_lt (by omega) (by omega), Int.emod_eq_of_lt (by omega) (by omega), Int.toNat_natCast, Int.toNat_natCast, w32_id (by omega) (by omega)]
  rw [e2]
  refine ⟨⟨by omega, by omega⟩, fun j j0 j1 => ?_⟩
  obtain ⟨t, rfl⟩ : ∃ t : Nat, j = t := ⟨j.toNat, by omega⟩
  have key : (n ||| 2 ^ i) / 2 ^ t % 2 = if t = i then 1 else n / 2 ^ t % 2 := by
    rw [← Nat.toNat_testBit, ← Nat.toNat_testBit, Nat.testBit_or, Nat.testBit_two_pow]
    by_cases c : t = i
    · subst c; simp
    · rw [if_neg c]
      have c' : i ≠ t := fun x => c x.symm
      simp [c']
  rw [Int.toNat_natCast]
  have k2 := congrArg (fun x : Nat => (x : Int)) key
  simp only [Int.natCast_emod, Int.natCast_ediv, Int.natCast_pow] at k2
  by_cases c : t = i
  · rw [if_pos (by omega)]
    rw [if_pos c] at k2
    exact k2
  · rw [if_neg (by omega)]
    rw [if_neg c] at k2
    simp only [Int.natCast_emod, Int.natCast_ediv, Int.natCast_pow] at k2
    exact k2
section CR
variable {h : az_H} {s : Nat → Int → Int} {r : Nat → Int → Option Nat} {G : az_G} {d : Nat} {Q : Option az_V → az_H → Prop}
theorem sX9_meet {k l w : Int} {z : Z3} (hm : metR (s 24) z.2.1) (he : s 22 5 = z.2.2) (hw : s 22 4 = w) (k0 : 0 ≤ k) (k1 : k < 6) (l0 : 0 ≤ l) (l1 : l < 24) (hq : ∀ g', metR g' (meetZ w (24 * k + l) z).2.1 → Q none (PS h (uf (up s 24 g') 22 5 (meetZ w (24 * k + l) z).2.2) r)) : cz G mX9_meet (d + 1) 0 0 [vo 22, vi k, vi l] (PS h s r) Q := by
  refine vX9_meet ?_
  have hsame : uf (up s 24 (s 24)) 22 5 z.2.2 = s := by rw [up_same, uf_same he]
  have b := hm k k0 k1
  have bl := b.2 l l0 l1
  simp only [RB, nnR_q, atI_q, atL_q, atR_q, atO_q, atV_q, fit0, fit1, true_and, ↓reduceIte, Int.reduceEq, Int.reduceNe, Int.reduceNeg, Int.reduceLT, Int.reduceLE, Nat.reduceEqDiff, uf_pa, uq_pa, up_ap, ud_ap, Nat.reduceEqDiff, reduceCtorEq]
  rw [hw]
  unfold meetZ at hq
  by_cases c : w = 0
  · rw [if_pos c]
    simp only [if_pos c] at hq
    have := hq (s 24) hm
    rw [hsame] at this
    exact this
  rw [if_neg c, if_neg (by omega), if_neg (by omega)]
  simp only [if_neg c] at hq
  refine vX9_hasMet ?_
  rw [if_neg (by omega), if_neg (by omega)]
  simp only [RB, nnR_q, atI_q, atL_q, atR_q, atO_q, atV_q, fit0, fit1, true_and, ↓reduceIte, Int.reduceEq, Int.reduceNe, Int.reduceNeg, Int.reduceLT, Int.reduceLE, Nat.reduceEqDiff, uf_pa, uq_pa, up_ap, ud_ap, Nat.reduceEqDiff, reduceCtorEq]
  refine ⟨k0, k1, ?_⟩
  rw [bit_get b.1.1 b.1.2 l0 l1, ← bl]
  by_cases c1 : z.2.1 (24 * k + l) = 0
  · rw [if_neg (by omega)]
    simp only [if_pos c1] at hq
    try simp only [RB, nnR_q, atI_q, atL_q, atR_q, atO_q, atV_q, fit0, fit1, true_and, ↓reduceIte, Int.reduceEq, Int.reduceNe, Int.reduceNeg, Int.reduceLT, Int.reduceLE, Nat.reduceEqDiff, uf_pa, uq_pa, up_ap, ud_ap, Nat.reduceEqDiff, reduceCtorEq]
    refine ⟨k0, k1, k0, k1, ?_⟩
    have bp := bit_put b.1.1 b.1.2 l0 l1
    refine hq (ud (s 24) k (bOr (s 24 k) (bShl 1 l))) ?_
    intro k' k0' k1'
    by_cases ek : k' = k
    · subst ek
      rw [ud_at]
      refine ⟨bp.1, fun l' l0' l1' => ?_⟩
      rw [bp.2 l' l0' l1', ud_ap]
      by_cases el : l' = l
      · rw [if_pos (by omega), if_pos el]
      · rw [if_neg (by omega), if_neg el]
        exact b.2 l' l0' l1'
    · rw [ud_ne ek]
      refine ⟨(hm k' k0' k1').1, fun l' l0' l1' => ?_⟩
      rw [ud_ne (by omega)]
      exact (hm k' k0' k1').2 l' l0' l1'
  · have : z.2.1 (24 * k + l) = 1 := by omega
    rw [if_pos (by omega)]
    simp only [if_neg c1] at hq
    try simp only [RB, nnR_q, atI_q, atL_q, atR_q, atO_q, atV_q, fit0, fit1, true_and, ↓reduceIte, Int.reduceEq, Int.reduceNe, Int.reduceNeg, Int.reduceLT, Int.reduceLE, Nat.reduceEqDiff, uf_pa, uq_pa, up_ap, ud_ap, Nat.reduceEqDiff, reduceCtorEq]
    have := hq (s 24) hm
    rw [hsame] at this
    exact this
end CR
theorem cp_mono (o : Int → Int) (j : Nat) : ∀ n, j < n → cp o j + (if o j = 20 ∨ o j = 23 then 2 else 1) ≤ cp o n
  | 0, h => absurd h (by omega)
  | n + 1, h => by
    by_cases c : j = n
    · subst c; exact Nat.le_refl _
    · have := cp_mono o j n (by omega)
      have e : cp o (n + 1) = cp o n + (if o n = 20 ∨ o n = 23 then 2 else 1) := rfl
      rw [e]
      omega
theorem cp_lt (o : Int → Int) {j n : Nat} (h : j < n) : cp o j < cp o n := by
  have := cp_mono o j n h
  split at this <;> omega
