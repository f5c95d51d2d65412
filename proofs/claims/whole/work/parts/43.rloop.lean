/-! THE REFERENCE'S MACHINE: what a statement does, and the loop -/
theorem rSt_fr {w : Int} {s s' : Nat → Int → Int} {z : Z3} (h1 : s' 64 = s 64) (h2 : s' 69 = s 69) (h3 : s' 54 30 = s 54 30) (h4 : s' 54 29 = s 54 29) (hs : rSt w s z) : rSt w s' z := by
  unfold rSt at *
  rw [h1, h2, h3, h4]
  exact hs
theorem rSt_r {w : Int} {s s' : Nat → Int → Int} {z : Z3} (h1 : rFr s s') (hs : rSt w s z) : rSt w s' z := rSt_fr (h1.1 64 (by decide) (by decide)) (h1.1 69 (by decide) (by decide)) (h1.2 30 (by decide) (by decide)) (h1.2 29 (by decide) (by decide)) hs
section RA
variable {h : az_H} {s : Nat → Int → Int} {r : Nat → Int → Option Nat} {G : az_G} {d e m : Nat} {Q : Option az_V → az_H → Prop} {w : Int} {cs : Int → Option Cd} {hk : Int → Option (Int × Int)} {z : Z3} {c : Cd} {who k n v u : Int} {S x a : Int}
theorem a_need (hS : 0 ≤ S ∧ S < 4500) (hO : s 56 S = 20) (hA : s 57 S = a) (ha : 0 ≤ a ∧ a ≤ 11) (hk6 : 0 ≤ k ∧ k < 6) (hst : rSt w s z) (hs : stk [x] (s 70)) (ht : s 54 32 = 1)
    (hq : ∀ s', (∀ a, a ≠ 54 → a ≠ 69 → s' a = s a) → (∀ j, j ≠ 30 → j ≠ 32 → s' 54 j = s 54 j) → s' 54 32 = 0 → rSt w s' (meetZ w (24 * k + (2 * a + if x = 0 then 1 else 0)) z) → Q (some (vi (if x = 0 then 0 else 1))) (PS h s' r)) : cz G mX11_act (d + 1) 0 0 [vo 54, vi S, vi k, vi who, vi u] (PS h s r) Q := by
  refine vX11_act ?_
  rw [rc_54]
  refine sX11_pop (st := []) hs ht (by decide) ?_
  rw [atI_q, ro_54_8, ld_57]
  refine ⟨by omega, by omega, ?_⟩
  rw [ro_54_7, ld_56]
  refine ⟨by omega, by omega, ?_⟩
  rw [show uf s 54 32 (([] : List Int).length : Int) 57 S = a from hA, show uf s 54 32 (([] : List Int).length : Int) 56 S = 20 from hO, if_pos rfl]
  have hst1 : rSt w (uf s 54 32 0) z := rSt_fr rfl rfl rfl rfl hst
  by_cases cx : x = 0
  · rw [if_pos cx, rc_54, w32_id (x := 2 * a) (by omega) (by omega), w32_id (by omega) (by omega)]
    refine sX11_meet hst1 hk6 (by omega) (fun s' q1 q2 q3 => ?_)
    rw [atV_q, if_pos cx]
    rw [if_pos cx] at hq
    rw [if_pos cx] at hq
    refine hq s' (fun b x y => (q1 b x y).trans (up_ne x)) (fun j x y => (q2 j x).trans (ud_ne y)) ?_ q3
    rw [q2 32 (by decide)]
    rfl
  · rw [if_neg cx, rc_54, w32_id (x := 2 * a) (by omega) (by omega), w32_id (by omega) (by omega)]
    refine sX11_meet hst1 hk6 (by omega) (fun s' q1 q2 q3 => ?_)
    rw [atV_q, if_neg cx]
    rw [if_neg cx] at hq
    rw [if_neg cx] at hq
    refine hq s' (fun b x y => (q1 b x y).trans (up_ne x)) (fun j x y => (q2 j x).trans (ud_ne y)) ?_ q3
    rw [q2 32 (by decide)]
    rfl
theorem a_if {g : Int} (hS : 0 ≤ S ∧ S < 4500) (hO : s 56 S = 23) (hA : s 57 S = a) (hg : s 58 S = g) (ha : 0 ≤ a ∧ a ≤ 11) (hk6 : 0 ≤ k ∧ k < 6) (hu : 0 ≤ u ∧ u ≤ 2) (hst : rSt w s z) (hs : stk [x] (s 70)) (ht : s 54 32 = 1)
    (hq : ∀ s', (∀ a, a ≠ 54 → a ≠ 69 → a ≠ 71 → s' a = s a) → (s' 71 = ud (s 71) u (if x = 0 then g else s 71 u)) → (∀ j, j ≠ 30 → j ≠ 32 → s' 54 j = s 54 j) → s' 54 32 = 0 → rSt w s' (meetZ w (24 * k + (2 * a + if x = 0 then 1 else 0)) z) → Q (some (vi 1)) (PS h s' r)) : cz G mX11_act (d + 1) 0 0 [vo 54, vi S, vi k, vi who, vi u] (PS h s r) Q := by
  refine vX11_act ?_
  rw [rc_54]
  refine sX11_pop (st := []) hs ht (by decide) ?_
  rw [atI_q, ro_54_8, ld_57]
  refine ⟨by omega, by omega, ?_⟩
  rw [ro_54_7, ld_56]
  refine ⟨by omega, by omega, ?_⟩
  rw [show uf s 54 32 (([] : List Int).length : Int) 57 S = a from hA, show uf s 54 32 (([] : List Int).length : Int) 56 S = 23 from hO, if_neg (by decide), if_neg (by decide), if_neg (by decide), if_pos rfl]
  have hst1 : rSt w (uf s 54 32 0) z := rSt_fr rfl rfl rfl rfl hst
  by_cases cx : x = 0
  · rw [if_pos cx, w32_id (x := 2 * a) (by omega) (by omega)]
    refine vX11_act_99 ?_
    rw [nnR_q, rc_54, w32_id (by omega) (by omega)]
    refine sX11_meet hst1 hk6 (by omega) (fun s' q1 q2 q3 => ?_)
    have e58 : s' 58 S = g := by rw [q1 58 (by decide) (by decide)]; exact hg
    have e71 : s' 71 = s 71 := q1 71 (by decide) (by decide)
    rw [atV_q, ro_54_35, if_pos cx, ro_54_9, ld_58, e58]
    refine ⟨by omega, by omega, ?_⟩
    rw [st_71]
    refine ⟨by omega, by omega, ?_⟩
    simp only [if_pos cx] at hq
    refine hq _ (fun b x y t => (up_ne t).trans ((q1 b x y).trans (up_ne x))) ?_ (fun j x y => (q2 j x).trans (ud_ne y)) ?_ (rSt_fr rfl rfl rfl rfl q3)
    · show ud (s' 71) u g = _
      rw [e71]
    · show s' 54 32 = 0
      rw [q2 32 (by decide)]
      rfl
  · rw [if_neg cx, w32_id (x := 2 * a) (by omega) (by omega)]
    refine vX11_act_99 ?_
    rw [nnR_q, rc_54, w32_id (by omega) (by omega)]
    refine sX11_meet hst1 hk6 (by omega) (fun s' q1 q2 q3 => ?_)
    have e71 : s' 71 = s 71 := q1 71 (by decide) (by decide)
    rw [atV_q, ro_54_35, if_neg cx, ro_54_35, ld_71]
    refine ⟨by omega, by omega, ?_⟩
    rw [st_71]
    refine ⟨by omega, by omega, ?_⟩
    simp only [if_neg cx] at hq
    refine hq _ (fun b x y t => (up_ne t).trans ((q1 b x y).trans (up_ne x))) ?_ (fun j x y => (q2 j x).trans (ud_ne y)) ?_ (rSt_fr rfl rfl rfl rfl q3)
    · show ud (s' 71) u (s' 71 u) = _
      rw [e71]
    · show s' 54 32 = 0
      rw [q2 32 (by decide)]
      rfl
theorem a_set (hS : 0 ≤ S ∧ S < 4500) (hO : s 56 S = 21) (hA : s 57 S = a) (ha : 0 ≤ a ∧ a ≤ 7) (hw : 0 ≤ who ∧ who < 4) (hs : stk [x] (s 70)) (ht : s 54 32 = 1)
    (hq : Q (some (vi 1)) (PS h (uf (uf s 54 32 0) 64 (cellI a who) x) r)) : cz G mX11_act (d + 1) 0 0 [vo 54, vi S, vi k, vi who, vi u] (PS h s r) Q := by
  refine vX11_act ?_
  rw [rc_54]
  refine sX11_pop (st := []) hs ht (by decide) ?_
  rw [atI_q, ro_54_8, ld_57]
  refine ⟨by omega, by omega, ?_⟩
  rw [ro_54_7, ld_56]
  refine ⟨by omega, by omega, ?_⟩
  rw [show uf s 54 32 (([] : List Int).length : Int) 57 S = a from hA, show uf s 54 32 (([] : List Int).length : Int) 56 S = 21 from hO, if_neg (by decide), if_pos rfl, ro_54_22]
  unfold cellI at hq
  by_cases c6 : a < 6
  · rw [if_neg (by omega), st_64]
    rw [if_pos c6] at hq
    exact ⟨by omega, by omega, hq⟩
  · rw [if_pos (by omega)]
    rw [if_neg c6] at hq
    by_cases c7 : a = 6
    · rw [if_pos c7, st_64, w32_id (by omega) (by omega)]
      rw [if_pos c7] at hq
      exact ⟨by omega, by omega, hq⟩
    · rw [if_neg c7, st_64, w32_id (by omega) (by omega)]
      rw [if_neg c7] at hq
      exact ⟨by omega, by omega, hq⟩
theorem a_pay (hE : REnv s cs hk) (hS : 0 ≤ S ∧ S < 4500) (hO : s 56 S = 22) (hw : 0 ≤ who ∧ who < 4) (hst : rSt w s z) (hs : stk [x] (s 70)) (ht : s 54 32 = 1) (hu : s 54 34 = u) (u0 : 1 ≤ u) (u3 : u ≤ 3) {u' : Int}
    (h0 : x < 0 ∨ z.1 18 < x → Q (some (vi 0)) (PS h (uf s 54 32 0) r))
    (h1 : ∀ s', ¬ x < 0 → ¬ z.1 18 < x → rSt w s' (payZ who x z) → frX s s' → (∀ a, a ≠ 54 → a ≠ 64 → s' a = s a) → (∀ j, j ≠ 32 → s' 54 j = s 54 j) → s' 54 32 = 0 → (hk who = none ∨ u = 3 ∨ (∃ q, hk who = some q ∧ (cs q.1 = none ∨ (payZ who x z).1 (14 + who) < 0))) → Q (some (vi 1)) (PS h s' r))
    (h2 : ∀ s' q c, ¬ x < 0 → ¬ z.1 18 < x → hk who = some q → u < 3 → cs q.1 = some c → ¬ (payZ who x z).1 (14 + who) < 0 → rSt w s' (entZ who 0 (payZ who x z)) → frX s s' → lowF u s s' → tF s' u q.1 q.2 0 (payZ who x z).1 0 → s' 54 32 = 0 → s' 54 33 = s 54 33 → Q (some (vi 1)) (PS h s' r)) :
    cz G mX11_act (d + 2) 0 0 [vo 54, vi S, vi k, vi who, vi u'] (PS h s r) Q := by
  refine vX11_act ?_
  rw [rc_54]
  refine sX11_pop (st := []) hs ht (by decide) ?_
  rw [atI_q, ro_54_8, ld_57]
  refine ⟨by omega, by omega, ?_⟩
  rw [ro_54_7, ld_56]
  refine ⟨by omega, by omega, ?_⟩
  rw [show uf s 54 32 (([] : List Int).length : Int) 56 S = 22 from hO, if_neg (by decide), if_neg (by decide), if_pos rfl]
  refine vX11_act_172 ?_
  by_cases cx : x < 0
  · rw [if_pos cx]; exact h0 (Or.inl cx)
  rw [if_neg cx]
  have hx := hs.2.1
  have e18 : (14 + who = 18) = False := by simp; omega
  have ew : w32 (14 + who) = 14 + who := w32_id (by omega) (by omega)
  have hR18 := hst.2.2.2.2 18 (by decide) (by decide)
  simp only [RB, nnR_q, atI_q, atL_q, atR_q, atO_q, atV_q, fit0, fit1, true_and, ↓reduceIte, Int.reduceEq, Int.reduceNe, Int.reduceNeg, Int.reduceLT, Int.reduceLE, Nat.reduceEqDiff, uf_pa, uq_pa, up_ap, ud_ap, Nat.reduceEqDiff, reduceCtorEq, hst.1 18 (by decide) (by decide), ew]
  by_cases cy : x ≤ z.1 18
  · rw [if_pos cy]
    simp only [e18, if_false]
    rw [hst.1 (14 + who) (by omega) (by omega)]
    generalize hs1 : uf (uf (uf s 54 32 ((([] : List Int).length : Nat) : Int)) 64 18 (w32 (z.1 18 - x))) 64 (14 + who) (w32 (z.1 (14 + who) + x)) = s1
    have hst1 : rSt w s1 (payZ who x z) := by
      refine ⟨?_, ?_, ?_, ?_, ?_⟩
      · rw [← hs1]; exact eq19_ud (eq19_ud hst.1)
      · rw [← hs1]; exact hst.2.1
      · rw [← hs1]; exact hst.2.2.1
      · rw [← hs1]; exact hst.2.2.2.1
      · exact rgN_ud (rgN_ud hst.2.2.2.2 (w32_lo _) (w32_hi _)) (w32_lo _) (w32_hi _)
    have hfr : frX s s1 := by
      rw [← hs1]
      exact frX_tr (frX_tr (frX_54 (by decide)) (frX_uf (by decide))) (frX_uf (by decide))
    have hall : ∀ a, a ≠ 54 → a ≠ 64 → s1 a = s a := by
      intro b x y
      rw [← hs1]
      show up (up (up s 54 _) 64 _) 64 _ b = _
      rw [up_ne y, up_ne y, up_ne x]
    have h54 : ∀ j, j ≠ 32 → s1 54 j = s 54 j := by
      intro j x
      rw [← hs1]
      show ud (s 54) 32 _ j = _
      exact ud_ne x
    have h32 : s1 54 32 = 0 := by rw [← hs1]; rfl
    have hH := hE.2 who hw.1 hw.2
    have e67 : s 67 = s1 67 := (hall 67 (by decide) (by decide)).symm
    have e68 : s 68 = s1 68 := (hall 68 (by decide) (by decide)).symm
    have e34 : s1 54 34 = u := (h54 34 (by decide)).trans hu
    refine ⟨by omega, by omega, by omega, by omega, by omega, by omega, ?_⟩
    cases hkw : hk who with
    | none =>
      rw [if_pos (hH.1 hkw)]
      exact h1 s1 cx (by omega) hst1 hfr hall h54 h32 (Or.inl hkw)
    | some q =>
      obtain ⟨q6, q67, q68⟩ := hH.2 q hkw
      rw [q67, if_neg (by omega), hu]
      by_cases c3 : 3 ≤ u
      · rw [if_pos c3]
        exact h1 s1 cx (by omega) hst1 hfr hall h54 h32 (Or.inr (Or.inl (by omega)))
      · rw [if_neg c3]
        refine ⟨by omega, by omega, by omega, by omega, ?_⟩
        rw [q68]
        refine sX11_enter (REnv_fr hfr hE) hst1 hw q6 e34 (by omega) (by omega) (fun y => ?_) (fun c s' y1 y2 y3 y4 y5 y6 y7 y8 y9 => ?_)
        · rw [atI_q]
          exact h1 s1 cx (by omega) hst1 hfr hall h54 h32 (Or.inr (Or.inr ⟨q, hkw, y⟩))
        · rw [atI_q]
          refine h2 s' q c cx (by omega) hkw (by omega) y1 y2 y3 (frX_tr hfr y4) (lowF_tr (Int.le_refl _) (lowF_eq (fun a z1 z2 => hall a (by omega) (by omega))) y5) y6 (y7.trans h32) (y8.trans (h54 33 (by decide)))
  · rw [if_neg cy]
    exact h0 (Or.inr (by omega))
/-- a step of the loop -/
theorem r_go {x5 : Int} {N0 : Int → Int} {j : Nat} (hm : m ≤ 2) (hT : tF s (2 - (m : Int)) k n v N0 j) (hk6 : 0 ≤ k ∧ k < 6) (hC : rCode s k c) (hj : j < c.1) (h300 : c.1 ≤ 300) {s1 : Nat → Int → Int} (hs1 : s1 = uf s 71 (2 - (m : Int)) (j + 1))
    (hF : if 20 ≤ c.2.1 j then cz G mX11_act d 0 0 [vo 54, vi (300 * k + j), vi k, vi who, vi (2 - (m : Int))] (PS h s1 r) (fun v h16 => atI v (fun r17 => (if r17 = 0 then rcv h16 54 11 (cz G mX11_fail d 0 0 [vo 54] h16 (fun v h18 => atV v (pX11_run_26 G d 54 who 0 h18 Q))) else pX11_run_26 G d 54 who x5 h16 Q)))
      else cz G mX11_reckon d 0 0 [vo 54, vi (c.2.1 j), vi (c.2.2.1 j), vi who, vi n, vi v] (PS h s1 r) (fun v h27 => atV v (rdI h27 54 11 33 (fun f28 => (if f28 = 0 then pX11_run_26 G d 54 who x5 h27 Q else rcv h27 54 11 (cz G mX11_fail d 0 0 [vo 54] h27 (fun v h29 => atV v (wrF h29 54 11 33 (.boolean) (vi 0) (fun h30 => wrF h30 54 11 32 (.int) (vi 0) (fun h31 => pX11_run_26 G d 54 who 0 h31 Q)))))))))) : pX11_run_26 G d 54 who x5 (PS h s r) Q := by
  subst hs1
  have hne : ¬ ((j : Int) = (c.1 : Int)) := by clear hF hC; omega
  have hS : 0 ≤ 300 * k + (j : Int) ∧ 300 * k + (j : Int) < 4500 := by clear hF hC; omega
  have hu : 0 ≤ 2 - (m : Int) ∧ 2 - (m : Int) < 3 := by clear hF hC; omega
  have hk15 : 0 ≤ k ∧ k < 15 := by clear hF hC; omega
  have hz : ¬ (2 - (m : Int) + 1 ≤ 0) := by clear hF hC; omega
  have e3 : w32 ((j : Int) + 1) = j + 1 := by rw [w32_id] <;> (clear hF hC; omega)
  have e2 : w32 (w32 (300 * k) + (j : Int)) = 300 * k + j := by
    clear hF hC e3
    rw [w32_id (x := 300 * k) (by omega) (by omega), w32_id (by omega) (by omega)]
  have e1 : w32 (2 - (m : Int) + 1 - 1) = 2 - (m : Int) := by
    clear hF hC e3 e2
    rw [w32_id] <;> omega
  obtain ⟨t1, t2, t3, t4, t5, t6⟩ := hT
  obtain ⟨o1, o2, o3⟩ := hC.2 j hj
  refine vX11_run_26 ?_
  rw [ri_54_34, t1, if_neg hz, ri_54_34, t1, e1, ro_54_36, ld_72, t3]
  refine ⟨hu.1, hu.2, ?_⟩
  rw [ro_54_35, ld_71, t2]
  refine ⟨hu.1, hu.2, ?_⟩
  rw [ro_54_10, ld_59, hC.1]
  refine ⟨hk15.1, hk15.2, ?_⟩
  rw [if_neg hne, ro_54_35, ld_71, t2]
  refine ⟨hu.1, hu.2, ?_⟩
  rw [ro_54_35, ld_71, t2]
  refine ⟨hu.1, hu.2, ?_⟩
  rw [st_71, e3]
  refine ⟨hu.1, hu.2, ?_⟩
  rw [ro_54_7, ld_56, e2]
  refine ⟨hS.1, hS.2, ?_⟩
  rw [show uf s 71 (2 - (m : Int)) (j + 1) 56 (300 * k + j) = c.2.1 j from o1]
  by_cases c20 : 20 ≤ c.2.1 j
  · rw [if_pos c20] at hF ⊢
    rw [rc_54]
    exact hF
  · rw [if_neg c20] at hF ⊢
    rw [ro_54_7, ld_56]
    refine ⟨hS.1, hS.2, ?_⟩
    rw [show uf s 71 (2 - (m : Int)) (j + 1) 56 (300 * k + j) = c.2.1 j from o1, ro_54_8, ld_57]
    refine ⟨hS.1, hS.2, ?_⟩
    rw [show uf s 71 (2 - (m : Int)) (j + 1) 57 (300 * k + j) = c.2.2.1 j from o2, ro_54_37, ld_73]
    refine ⟨hu.1, hu.2, ?_⟩
    rw [show uf s 71 (2 - (m : Int)) (j + 1) 73 (2 - (m : Int)) = n from t4, ro_54_38, ld_74]
    refine ⟨hu.1, hu.2, ?_⟩
    rw [show uf s 71 (2 - (m : Int)) (j + 1) 74 (2 - (m : Int)) = v from t5, rc_54]
    exact hF
theorem r_end {x5 : Int} {N0 : Int → Int} (hm : m ≤ 2) (hT : tF s (2 - (m : Int)) k n v N0 c.1) (hk6 : 0 ≤ k ∧ k < 6) (hC : rCode s k c) (hF : pX11_run_26 G d 54 who 1 (PS h (uf s 54 34 (2 - (m : Int))) r) Q) : pX11_run_26 G d 54 who x5 (PS h s r) Q := by
  have hu : 0 ≤ 2 - (m : Int) ∧ 2 - (m : Int) < 3 := by omega
  have hk15 : 0 ≤ k ∧ k < 15 := by omega
  have hz : ¬ (2 - (m : Int) + 1 ≤ 0) := by omega
  have e1 : w32 (2 - (m : Int) + 1 - 1) = 2 - (m : Int) := by rw [w32_id] <;> omega
  obtain ⟨t1, t2, t3, t4, t5, t6⟩ := hT
  refine vX11_run_26 ?_
  rw [ri_54_34, t1, if_neg hz, ri_54_34, t1, e1, ro_54_36, ld_72, t3]
  refine ⟨hu.1, hu.2, ?_⟩
  rw [ro_54_35, ld_71, t2]
  refine ⟨hu.1, hu.2, ?_⟩
  rw [ro_54_10, ld_59, hC.1]
  refine ⟨hk15.1, hk15.2, ?_⟩
  rw [if_pos rfl, ri_54_34, t1, e1, wi_54_34]
  exact hF
end RA
