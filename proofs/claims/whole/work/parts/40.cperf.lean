/-! THE CLASS'S MACHINE: perform, attempt, keeps -/
theorem eq19_cps {g N g' : Int → Int} (hN : eq19 g N) : eq19 (cps g g' 0 0 19) N := by
  intro k k0 k1
  unfold cps
  rw [if_pos (by omega), show 0 + (k - 0) = k by omega]
  exact hN k k0 k1
def exR (X : Option (List Int) × Z3) (N0 : Int → Int) : Bool × Z3 := match X with
  | (some _, z') => (true, z')
  | (none, z') => (false, (N0, z'.2))
theorem perf_s {w : Int} {cs : Int → Option Cd} {hk : Int → Option (Int × Int)} {m : Nat} {who k n v : Int} {z : Z3} {c : Cd} (hcs : cs k = some c) (hv : ¬ z.1 (14 + who) < v) : perf w cs hk (m + 1) who k n v z = exR (exec (hfZ w cs hk m who) w c k who n v (c.1 + 1) 0 [] (entZ who v z)) z.1 := by
  unfold perf
  simp only [hcs, if_neg hv]
  unfold exR
  rfl
theorem perf_n {w : Int} {cs : Int → Option Cd} {hk : Int → Option (Int × Int)} {m : Nat} {who k n v : Int} {z : Z3} (hcs : cs k = none ∨ z.1 (14 + who) < v) : perf w cs hk m who k n v z = (false, z) := by
  cases m with
  | zero => rfl
  | succ m =>
    unfold perf
    rcases hcs with hcs | hv
    · simp only [hcs]
    · cases hc : cs k with
      | none => rfl
      | some c => simp only [if_pos hv]
section CQ
variable {h : az_H} {s : Nat → Int → Int} {r : Nat → Int → Option Nat} {G : az_G} {d e m : Nat} {Q : Option az_V → az_H → Prop} {w : Int} {cs : Int → Option Cd} {hk : Int → Option (Int × Int)} {z : Z3} {b bc : Nat} {lv x3 : Int} {c : Cd} {who k n v : Int}
theorem cRun (hE : CEnv h r cs hk) (hm : m ≤ 2) (hp : ∀ m', m = m' + 1 → PFs G h r w cs hk e m') (hC : cCode h b lv c) (hc : isCl h r bc who k n v) (hw : 0 ≤ who ∧ who < 4) (hk6 : 0 ≤ k ∧ k < 6) {fin : Nat} (hwf : wfC c fin) (hst : cSt w s z) (X : Option (List Int) × Z3) (hX : exec (hfZ w cs hk m who) w c k who n v (c.1 + 1) 0 [] z = X)
    (hq1 : ∀ s' st', X.1 = some st' → cSt w s' X.2 → stk st' (s' 34) → s' 27 5 = st'.length → st'.length = fin → frM (34 - m) s s' → Q (some (vi 1)) (PS h s' r))
    (hq0 : ∀ s', X.1 = none → cSt w s' X.2 → frM (34 - m) s s' → Q (some (vi 0)) (PS h s' r)) :
    cz G mX4_run (e + 3 * m + 3) 0 0 [vo 27, vo b, vo bc, vi (3 - (m : Int))] (PS h s r) Q := by
  obtain ⟨ops, args, hC⟩ := hC
  obtain ⟨h300, dp, d0, d1, hdp⟩ := hwf
  refine vX4_run (d := e + 3 * m + 2) ?_
  rw [wi_27_5]
  refine cRun8 hE hm hp hC hc hw hk6 hdp s X (fun s' st' q1 q2 q3 q4 q5 q6 => hq1 s' st' q1 q2 q3 q4 (by omega) q6) hq0 (c.1 + 1) 0 [] z _ (cSt_fr rfl rfl rfl hst) trivial rfl (by rw [d0]; rfl) (by omega) (by omega) (frM_uf (by omega)) hX
theorem cPerf0 (hE : CEnv h r cs hk) (hm : m ≤ 2) (hp : ∀ m', m = m' + 1 → PFs G h r w cs hk e m') : PFs G h r w cs hk e m := by
  intro s z b who k n v Q hst hc hw hk6 hq
  have c0 : ∀ K s', rdI (PS h s' r) b 0 0 K = K who := fun K s' => rdI_q (hc s') rfl
  have c1 : ∀ K s', rdI (PS h s' r) b 0 1 K = K k := fun K s' => rdI_q (hc s') rfl
  have c3 : ∀ K s', rdI (PS h s' r) b 0 3 K = K v := fun K s' => rdI_q (hc s') rfl
  have hK := hE.1 k hk6.1 hk6.2
  have w14 : w32 (14 + who) = 14 + who := w32_id (by omega) (by omega)
  refine vX4_perform (d := e + 3 * m + 3) ?_
  simp only [RB, nnR_q, atI_q, atL_q, atR_q, atO_q, atV_q, fit0, fit1, true_and, ↓reduceIte, Int.reduceEq, Int.reduceNe, Int.reduceNeg, Int.reduceLT, Int.reduceLE, Nat.reduceEqDiff, uf_pa, uq_pa, up_ap, ud_ap, Nat.reduceEqDiff, reduceCtorEq, c0, c1]
  refine sX9_codeOf hk6.1 hk6.2 ?_
  simp only [RB, nnR_q, atI_q, atL_q, atR_q, atO_q, atV_q, fit0, fit1, true_and, ↓reduceIte, Int.reduceEq, Int.reduceNe, Int.reduceNeg, Int.reduceLT, Int.reduceLE, Nat.reduceEqDiff, uf_pa, uq_pa, up_ap, ud_ap, Nat.reduceEqDiff, reduceCtorEq, c0, w14]
  cases hcs : cs k with
  | none =>
    rw [hK.1 hcs]
    rw [perf_n (Or.inl hcs)] at hq
    exact hq s hst frM_rf id
  | some c =>
    obtain ⟨bb, lv, hbb, hC, hwf⟩ := hK.2 c hcs
    rw [hbb]
    show (if 3 - (m : Int) < 1 then _ else _)
    rw [if_neg (by omega), if_neg (by omega)]
    refine sX4_cell (by omega) (by omega) ?_
    simp only [RB, nnR_q, atI_q, atL_q, atR_q, atO_q, atV_q, fit0, fit1, true_and, ↓reduceIte, Int.reduceEq, Int.reduceNe, Int.reduceNeg, Int.reduceLT, Int.reduceLE, Nat.reduceEqDiff, uf_pa, uq_pa, up_ap, ud_ap, Nat.reduceEqDiff, reduceCtorEq, c3]
    rw [hst.1 (14 + who) (by omega) (by omega)]
    by_cases cv : z.1 (14 + who) < v
    · rw [if_neg (by omega)]
      rw [perf_n (Or.inr cv)] at hq
      exact hq s hst frM_rf id
    rw [if_pos (by omega)]
    rw [perf_s hcs cv] at hq
    generalize hX : exec (hfZ w cs hk m who) w c k who n v (c.1 + 1) 0 [] (entZ who v z) = X at hq
    -- the array that keeps the state before
    have main : ∀ q : Nat, q = 33 - m → (∀ (s1 : Nat → Int → Int) (K : az_H → Prop), acp (PS h s1 r) 29 q 0 0 19 K = K (PS h (up s1 q (cps (s1 29) (s1 q) 0 0 19)) r)) → (∀ (s1 : Nat → Int → Int) (K : az_H → Prop), acp (PS h s1 r) q 29 0 0 19 K = K (PS h (up s1 29 (cps (s1 q) (s1 29) 0 0 19)) r)) → (∀ (s1 : Nat → Int → Int) (K : Option Nat → Prop), ldR (PS h s1 r) 30 (.array .int) (w32 (3 - (m : Int) - 1)) K = K (some q)) →
        ldR (PS h s r) 30 (.array .int) (w32 (3 - (m : Int) - 1)) (fun e13 => nnR e13 (fun a14 => acp (PS h s r) 29 a14 0 0 19 (fun h15 => rcv h15 27 4 (cz G mX4_cell (e + 3 * m + 3) 0 0 [vo 27, vi (14 + who)] h15 (fun v h16 => atI v (fun r17 => rdI h16 b 0 3 (fun f18 => rcv h16 27 4 (cz G mX4_put (e + 3 * m + 3) 0 0 [vo 27, vi (14 + who), vi (w32 (r17 - f18))] h16 (fun v h19 => atV v (rdO h19 27 4 2 (fun o20 => ldI h19 o20 (.int) 18 (fun e21 => rdI h19 b 0 3 (fun f22 => stI h19 o20 .int 18 (w32 (e21 + f22)) (fun h23 => rcv h23 27 4 (cz G mX4_run (e + 3 * m + 3) 0 0 [vo 27, vo bb, vo b, vi (3 - (m : Int))] h23 (fun v h24 => atI v (fun r25 => (if r25 = 0 then rdO h24 27 4 3 (fun o27 => ldR h24 o27 (.array (.int)) (w32 (3 - (m : Int) - 1)) (fun e28 => rdO h24 27 4 2 (fun o29 => nnR e28 (fun a30 => acp h24 a30 o29 0 0 19 (fun h31 => wrF h31 27 4 5 (.int) (vi 0) (fun h32 => (az_fit (.boolean) (vi r25) ∧ Q (some (vi r25)) h32))))))) else wrF h24 27 4 5 (.int) (vi 0) (fun h26 => (az_fit (.boolean) (vi r25) ∧ Q (some (vi r25)) h26)))))))))))))))))))) := by
      intro q hqm ha1 ha2 hl
      simp only [hl, nnR_q, ha1, rc_27]
      have hq29 : (29 : Nat) ≠ q := by omega
      have n29 : ∀ (s1 : Nat → Int → Int) (g : Int → Int), up s1 q g 29 = s1 29 := fun s1 g => up_ne (by omega)
      refine sX4_cell (by omega) (by omega) ?_
      simp only [RB, nnR_q, atI_q, atL_q, atR_q, atO_q, atV_q, fit0, fit1, true_and, ↓reduceIte, Int.reduceEq, Int.reduceNe, Int.reduceNeg, Int.reduceLT, Int.reduceLE, Nat.reduceEqDiff, uf_pa, uq_pa, up_ap, ud_ap, Nat.reduceEqDiff, reduceCtorEq, c3]
      refine sX4_put (by omega) (by omega) ?_
      simp only [RB, nnR_q, atI_q, atL_q, atR_q, atO_q, atV_q, fit0, fit1, true_and, ↓reduceIte, Int.reduceEq, Int.reduceNe, Int.reduceNeg, Int.reduceLT, Int.reduceLE, Nat.reduceEqDiff, uf_pa, uq_pa, up_ap, ud_ap, Nat.reduceEqDiff, reduceCtorEq, c3]
      have e18 : (18 = 14 + who) = False := by simp; omega
      simp only [e18, if_false, if_neg hq29]
      rw [hst.1 (14 + who) (by omega) (by omega), hst.1 18 (by decide) (by decide)]
      generalize hs1 : uf (uf (up s q (cps (s 29) (s q) 0 0 19)) 29 (14 + who) (w32 (z.1 (14 + who) - v))) 29 18 (w32 (z.1 18 + v)) = s1
      have hst1 : cSt w s1 (entZ who v z) := by
        have e29 : s1 29 = ud (ud (s 29) (14 + who) (w32 (z.1 (14 + who) - v))) 18 (w32 (z.1 18 + v)) := by
          rw [← hs1]
          show ud (ud (up s q _ 29) _ _) _ _ = _
          rw [n29]
        have e24 : s1 24 = s 24 := by
          rw [← hs1]
          show up s q _ 24 = _
          exact up_ne (by omega)
        have e22 : s1 22 = s 22 := by
          rw [← hs1]
          show up s q _ 22 = _
          exact up_ne (by omega)
        refine ⟨?_, ?_, ?_, ?_, ?_⟩
        · rw [e29]; exact eq19_ud (eq19_ud hst.1)
        · rw [e24]; exact hst.2.1
        · rw [e22]; exact hst.2.2.1
        · rw [e22]; exact hst.2.2.2.1
        · exact rgN_ud (rgN_ud hst.2.2.2.2 (w32_lo _) (w32_hi _)) (w32_lo _) (w32_hi _)
      have hsq : eq19 (s1 q) z.1 := by
        have : s1 q = cps (s 29) (s q) 0 0 19 := by
          rw [← hs1]
          show uf (uf (up s q _) 29 _ _) 29 _ _ q = _
          rw [uf, up_ne (by omega), uf, up_ne (by omega), up_at]
        rw [this]
        exact eq19_cps hst.1
      have hfr1 : frM (33 - m) s s1 := by
        rw [← hs1]
        exact frM_tr (Nat.le_refl _) (frM_tr (Nat.le_refl _) (frM_up (by omega)) (frM_uf (by omega))) (frM_uf (by omega))
      refine cRun hE hm hp hC hc hw hk6 hwf hst1 X hX (fun s' st' q1 q2 q3 q4 q5 q6 => ?_) (fun s' q1 q2 q3 => ?_)
      · obtain ⟨X1, X2⟩ := X
        have : X1 = some st' := q1
        subst this
        rw [atI_q, if_neg (by decide), wi_27_5, fit1]
        refine ⟨trivial, ?_⟩
        exact hq _ (cSt_fr rfl rfl rfl q2) (frM_tr (Nat.le_refl _) (frM_tr (q' := 34 - m) (by omega) hfr1 q6) (frM_uf (by omega))) (fun _ => rfl)
      · obtain ⟨X1, X2⟩ := X
        have : X1 = none := q1
        subst this
        have eq' : s' q = s1 q := q3 q (by omega) (by omega) (by omega) (by omega) (by omega) (by omega)
        rw [atI_q, if_pos rfl]
        simp only [ro_27_3, hl, ro_27_2, nnR_q, ha2, wi_27_5, fit0, true_and]
        refine hq _ ⟨?_, q2.2.1, q2.2.2.1, q2.2.2.2.1, hst.2.2.2.2⟩ (frM_tr (Nat.le_refl _) (frM_tr (Nat.le_refl _) (frM_tr (q' := 34 - m) (by omega) hfr1 q3) (frM_up (by omega))) (frM_uf (by omega))) (fun _ => rfl)
        show eq19 (cps (s' q) (s' 29) 0 0 19) z.1
        rw [eq']
        exact eq19_cps hsq
    have hm3 : m = 0 ∨ m = 1 ∨ m = 2 := by omega
    rcases hm3 with rfl | rfl | rfl
    · have key := main 33 rfl (fun s1 K => by rw [cp_29_33]; simp) (fun s1 K => by rw [cp_33_29]; simp) (fun s1 K => by rw [l30, show w32 (3 - ((0 : Nat) : Int) - 1) = 2 by decide]; simp)
      rw [l30] at key
      exact key
    · have key := main 32 rfl (fun s1 K => by rw [cp_29_32]; simp) (fun s1 K => by rw [cp_32_29]; simp) (fun s1 K => by rw [l30, show w32 (3 - ((1 : Nat) : Int) - 1) = 1 by decide]; simp)
      rw [l30] at key
      exact key
    · have key := main 31 rfl (fun s1 K => by rw [cp_29_31]; simp) (fun s1 K => by rw [cp_31_29]; simp) (fun s1 K => by rw [l30, show w32 (3 - ((2 : Nat) : Int) - 1) = 0 by decide]; simp)
      rw [l30] at key
      exact key
theorem cPerf (hE : CEnv h r cs hk) : ∀ m, m ≤ 2 → PFs G h r w cs hk e m
  | 0, hm => cPerf0 hE hm (fun m' h => absurd h (by omega))
  | m + 1, hm => cPerf0 hE hm (fun m' h => by
      have : m' = m := by omega
      subst this
      exact cPerf hE m' (by omega))
/-- a call is tried -/
theorem sX4_attempt (hE : CEnv h r cs hk) (hst : cSt w s z) (hc : isCl h r b who k n v) (hw : 0 ≤ who ∧ who < 4) (hk6 : 0 ≤ k ∧ k < 6) (hq : ∀ s', cSt w s' (perf w cs hk 3 who k n v z).2 → frM 31 s s' → Q (some (vi (if (perf w cs hk 3 who k n v z).1 then 1 else 0))) (PS h s' r)) : cz G mX4_attempt (d + 11) 0 0 [vo 27, vo b] (PS h s r) Q := by
  refine vX4_attempt (d := d + 10) ?_
  simp only [RB, nnR_q, atI_q, atL_q, atR_q, atO_q, atV_q, fit0, fit1, true_and, ↓reduceIte, Int.reduceEq, Int.reduceNe, Int.reduceNeg, Int.reduceLT, Int.reduceLE, Nat.reduceEqDiff, uf_pa, uq_pa, up_ap, ud_ap, Nat.reduceEqDiff, reduceCtorEq]
  refine cPerf hE 2 (Nat.le_refl _) s z b who k n v _ hst hc hw hk6 (fun s' q1 q2 q3 => ?_)
  simp only [RB, nnR_q, atI_q, atL_q, atR_q, atO_q, atV_q, fit0, fit1, true_and, ↓reduceIte, Int.reduceEq, Int.reduceNe, Int.reduceNeg, Int.reduceLT, Int.reduceLE, Nat.reduceEqDiff, uf_pa, uq_pa, up_ap, ud_ap, Nat.reduceEqDiff, reduceCtorEq]
  replace hq := hq s' q1 q2
  cases hx : (perf w cs hk 3 who k n v z).1
  · rw [hx] at hq
    exact hq
  · rw [hx] at hq
    exact hq
end CQ
