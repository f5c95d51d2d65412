/-! BOTH MACHINES: rules, and the start -/
theorem exec_rl {hf : Z3 → Z3} {w : Int} {c : Cd} {k who n v : Int} (hr : ∀ j, j < c.1 → c.2.1 j < 20) : ∀ (f j : Nat) (st : List Int) (z : Z3), exec hf w c k who n v f j st z = ((exec id 0 c 0 who n v f j st (z.1, fun _ => 0, 0)).1, z)
  | 0, _, _, _ => rfl
  | f + 1, j, st, z => by
    rw [exec_s, exec_s]
    by_cases hj : c.1 ≤ j
    · rw [if_pos hj, if_pos hj]
    · rw [if_neg hj, if_neg hj, if_pos (hr j (by omega)), if_pos (hr j (by omega))]
      cases rk (c.2.1 j) (c.2.2.1 j) who n v z.1 st with
      | none => rfl
      | some st' => exact exec_rl hr f (j + 1) st' z
def keepX (X : Option (List Int)) : Bool := match X with
  | some (x :: _) => x != 0
  | _ => false
theorem keepX_1 {x : Int} {l : List Int} : (if keepX (some (x :: l)) = true then (1 : Int) else 0) = if x = 0 then 0 else 1 := by
  unfold keepX
  by_cases c : x = 0
  · subst c; rfl
  · rw [if_neg c, if_pos]
    exact bne_iff_ne.mpr c
theorem keepX_0 {x : Int} {l : List Int} : (if keepX (some (x :: l)) = true then (0 : Int) else 1) = if x = 0 then 1 else 0 := by
  unfold keepX
  by_cases c : x = 0
  · subst c; rfl
  · rw [if_neg c, if_pos]
    exact bne_iff_ne.mpr c
/-- a rule's code -/
def wfR (c : Cd) : Prop := wfC c 1 ∧ ∀ j, j < c.1 → c.2.1 j < 20
def stN (M : Int → Int) : Int → Int := fun i => if 14 ≤ i ∧ i ≤ 17 then M (i - 14) else 0
section RU
variable {h : az_H} {s : Nat → Int → Int} {r : Nat → Int → Option Nat} {G : az_G} {d : Nat} {Q : Option az_V → az_H → Prop} {w : Int} {cs : Int → Option Cd} {hk : Int → Option (Int × Int)} {z : Z3} {c : Cd} {b : Nat} {lv ru : Int}
theorem sX4_keeps (hE : CEnv h r cs hk) (hC : cCode h b lv c) (hwf : wfR c) (hst : cSt w s z) (hq : ∀ s', cSt w s' z → frM 34 s s' → Q (some (vi (if keepsR c z.1 then 1 else 0))) (PS h s' r)) : cz G mX4_keeps (d + 4) 0 0 [vo 27, vo b] (PS h s r) Q := by
  refine vX4_keeps (d := d + 3) ?_
  show rdO (PS h s r) 27 4 1 _
  rw [ro_27_1, rc_27]
  have hc : isCl h r 28 0 0 0 0 := fun s' => PS_in ⟨by decide, by decide⟩
  have key := @cRun h s r G d 0 (fun v h3 => atI v (fun r4 => (if r4 = 0 then Q (some (vi 0)) h3 else rcv h3 27 4 (cz G mX4_pop (d + 3) 0 0 [vo 27] h3 (fun v h5 => atL v (fun r6 => (if r6 = 0 then Q (some (vi 0)) h5 else Q (some (vi 1)) h5))))))) w cs hk z b 28 lv c 0 0 0 0 hE (by decide) (fun m' h => absurd h (by omega)) hC hc (by decide) (by decide) 1 hwf.1 hst
  rw [exec_rl hwf.2] at key
  have ek : keepsR c z.1 = keepX (exec id 0 c 0 0 0 0 (c.1 + 1) 0 [] (z.1, fun _ => 0, 0)).1 := by
    unfold keepsR keepX
    rfl
  rw [ek] at hq
  generalize (exec id 0 c 0 0 0 0 (c.1 + 1) 0 [] (z.1, fun _ => 0, 0)).1 = X1 at key hq
  refine key _ rfl (fun s' st' q1 q2 q3 q4 q5 q6 => ?_) (fun s' q1 q2 q3 => ?_)
  · have q1' : X1 = some st' := q1
    subst q1'
    obtain ⟨x, rfl⟩ : ∃ x, st' = [x] := by
      match st', q5 with
      | [x], _ => exact ⟨x, rfl⟩
    rw [keepX_1] at hq
    rw [atI_q, if_neg (by decide), rc_27]
    refine sX4_pop (st := []) q3 q4 (by decide) ?_
    rw [atL_q]
    have hq' := hq _ (cSt_fr (s' := uf s' 27 5 (([] : List Int).length : Int)) rfl rfl rfl q2) (frM_tr (Nat.le_refl _) q6 (frM_uf (by decide)))
    by_cases cx : x = 0
    · rw [if_pos cx] at hq' ⊢
      exact hq'
    · rw [if_neg cx] at hq' ⊢
      exact hq'
  · have q1' : X1 = none := q1
    subst q1'
    rw [atI_q, if_pos rfl]
    exact hq s' q2 q3
theorem sX11_isBroken (hru : 0 ≤ ru ∧ ru < 8) (hC : rCode s (6 + ru) c) (hwf : wfR c) (hst : rSt w s z) (hq : ∀ s', rSt w s' z → frX s s' → Q (some (vi (if keepsR c z.1 then 0 else 1))) (PS h s' r)) : cz G mX11_isBroken (d + 4) 0 0 [vo 54, vi ru] (PS h s r) Q := by
  obtain ⟨⟨h300, dp, d0, d1, hdp⟩, hr⟩ := hwf
  refine vX11_isBroken ?_
  rw [wi_54_32, wb_54_33_0, w32_id (x := 6 + ru) (by omega) (by omega), w32_id (by omega) (by omega)]
  have ek : keepsR c z.1 = keepX (exec id 0 c 0 0 0 0 (c.1 + 1) 0 [] (z.1, fun _ => 0, 0)).1 := by
    unfold keepsR keepX
    rfl
  rw [ek] at hq
  generalize hX : (exec id 0 c 0 0 0 0 (c.1 + 1) 0 [] (z.1, fun _ => 0, 0)).1 = X at hq
  have L : ∀ (f j : Nat) (st : List Int) (s1 : Nat → Int → Int), rSt w s1 z → stk st (s1 70) → s1 54 32 = st.length → s1 54 33 = 0 → st.length = dp j → j ≤ c.1 → c.1 - j ≤ f → frX s s1 → (exec id 0 c 0 0 0 0 f j st (z.1, fun _ => 0, 0)).1 = X → pX11_isBroken_21 G (d + 3) 54 (6 + ru) (300 * (6 + ru) + j) (PS h s1 r) Q := by
    have hend : ∀ (st : List Int) (s1 : Nat → Int → Int), rSt w s1 z → stk st (s1 70) → s1 54 32 = st.length → s1 54 33 = 0 → st.length = dp c.1 → frX s s1 → some st = X → pX11_isBroken_69 G (d + 3) 54 (PS h s1 r) Q := by
      intro st s1 q1 q2 q3 q4 q5 q6 q7
      subst q7
      obtain ⟨x, rfl⟩ : ∃ x, st = [x] := by
        rw [d1] at q5
        match st, q5 with
        | [x], _ => exact ⟨x, rfl⟩
      rw [keepX_0] at hq
      refine vX11_isBroken_69 ?_
      rw [ri_54_33, q4, if_pos rfl, rc_54]
      refine sX11_pop (st := []) q2 q3 (by decide) ?_
      rw [atI_q]
      have hq' := hq (uf (uf s1 54 32 (([] : List Int).length : Int)) 54 33 0) (rSt_fr rfl rfl rfl rfl q1) (frX_tr q6 (frX_tr (frX_54 (by decide)) (frX_54 (by decide))))
      by_cases cx : x = 0
      · rw [if_pos cx] at hq' ⊢
        rw [wb_54_33_0]
        exact hq'
      · rw [if_neg cx] at hq' ⊢
        rw [wb_54_33_0]
        exact hq'
    intro f
    induction f with
    | zero =>
      intro j st s1 q1 q2 q3 q4 q5 q6 q7 q8 q9
      have : j = c.1 := by omega
      subst this
      refine vX11_isBroken_21 ?_
      rw [ro_54_10, ld_59, q8.1 59 (by decide) (by decide) (by decide), hC.1, w32_id (x := 300 * (6 + ru)) (by omega) (by omega), w32_id (by omega) (by omega)]
      refine ⟨by omega, by omega, ?_⟩
      rw [if_pos (by omega)]
      exact hend st s1 q1 q2 q3 q4 q5 q8 q9
    | succ f ih =>
      intro j st s1 q1 q2 q3 q4 q5 q6 q7 q8 q9
      refine vX11_isBroken_21 ?_
      rw [ro_54_10, ld_59, q8.1 59 (by decide) (by decide) (by decide), hC.1, w32_id (x := 300 * (6 + ru)) (by omega) (by omega), w32_id (by omega) (by omega)]
      refine ⟨by omega, by omega, ?_⟩
      rw [exec_s] at q9
      by_cases hj : c.1 ≤ j
      · have : j = c.1 := by omega
        subst this
        rw [if_pos (Nat.le_refl _)] at q9
        rw [if_pos (by omega)]
        exact hend st s1 q1 q2 q3 q4 q5 q8 q9
      have hjc : j < c.1 := by omega
      obtain ⟨hwi, hd31⟩ := hdp j hjc
      have ho20 := hr j hjc
      have hcj := hC.2 j hjc
      rw [if_neg hj, if_pos ho20] at q9
      rw [if_neg (by omega), ri_54_33, q4, if_pos rfl, ro_54_7, ld_56, q8.1 56 (by decide) (by decide) (by decide), hcj.1]
      refine ⟨by omega, by omega, ?_⟩
      rw [ro_54_8, ld_57, q8.1 57 (by decide) (by decide) (by decide), hcj.2.1, rc_54]
      refine ⟨by omega, by omega, ?_⟩
      have ho : 1 ≤ c.2.1 j ∧ c.2.1 j ≤ 18 := by rcases hwi with x | x | x | x <;> omega
      have hsn := rv_snd (c.2.1 j) (c.2.2.1 j) 0 0 0 z.1 st
      have hpre : (c.2.1 j = 9 ∨ c.2.1 j = 10 → 1 ≤ st.length) ∧ (11 ≤ c.2.1 j → 2 ≤ st.length) := by
        constructor <;> intro hx <;> rcases hwi with x | x | x | x <;> omega
      have harg : (c.2.1 j = 2 → 0 ≤ c.2.2.1 j ∧ c.2.2.1 j ≤ 7) ∧ (c.2.1 j = 7 → 0 ≤ c.2.2.1 j ∧ c.2.2.1 j ≤ 1) ∧ (c.2.1 j = 8 → 0 ≤ c.2.2.1 j ∧ c.2.2.1 j ≤ 3) := by
        rcases hwi with x | x | x | x
        · exact x.2.2.2.2
        · refine ⟨fun _ => ?_, fun _ => ?_, fun _ => ?_⟩ <;> omega
        · refine ⟨fun _ => ?_, fun _ => ?_, fun _ => ?_⟩ <;> omega
        · refine ⟨fun _ => ?_, fun _ => ?_, fun _ => ?_⟩ <;> omega
      have hsl : (rv (c.2.1 j) (c.2.2.1 j) 0 0 0 z.1 st).2.length + 1 = dp (j + 1) := by
        rcases hwi with x | x | x | x
        · rw [hsn.1 x.1 x.2.1]; omega
        · rw [hsn.2.1 (by omega), List.length_tail]; omega
        · rw [hsn.2.2 (by omega), List.length_tail, List.length_tail]; omega
        · exact absurd x.1 (by omega)
      have ej : w32 (300 * (6 + ru) + (j : Int) + 1) = 300 * (6 + ru) + ((j + 1 : Nat) : Int) := by rw [w32_id] <;> omega
      refine sX11_reckon (d := d) q1.1 q1.2.2.2.2 q2 q3 (by omega) q4 (by decide) ho hpre harg (fun s' st' g1 g2 g3 g4 g5 => ?_) (fun s' g1 g2 g3 => ?_)
      · rw [atV_q, ej]
        simp only [g1] at q9
        exact ih (j + 1) st' s' (rSt_r g2 q1) g4 g5 g3 (by rw [rk_some g1, List.length_cons]; exact hsl) (by omega) (by omega) (frX_tr q8 (frX_r g2)) q9
      · rw [atV_q, ej]
        simp only [g1] at q9
        subst q9
        have f2 := frX_tr q8 (frX_r g2)
        refine vX11_isBroken_21 ?_
        rw [ro_54_10, ld_59, f2.1 59 (by decide) (by decide) (by decide), hC.1, w32_id (x := 300 * (6 + ru)) (by omega) (by omega), w32_id (by omega) (by omega)]
        refine ⟨by omega, by omega, ?_⟩
        have h69 : pX11_isBroken_69 G (d + 3) 54 (PS h s' r) Q := by
          refine vX11_isBroken_69 ?_
          rw [ri_54_33, g3, if_neg (by decide), wb_54_33_0]
          exact hq _ (rSt_fr (s := s') rfl rfl rfl rfl (rSt_r g2 q1)) (frX_tr f2 (frX_54 (by decide)))
        by_cases hj1 : 300 * (6 + ru) + (c.1 : Int) ≤ 300 * (6 + ru) + ((j + 1 : Nat) : Int)
        · rw [if_pos hj1]; exact h69
        · rw [if_neg hj1, ri_54_33, g3, if_neg (by decide)]; exact h69
  have := L (c.1 + 1) 0 [] (uf (uf s 54 32 0) 54 33 0) (rSt_fr rfl rfl rfl rfl hst) trivial rfl rfl (by rw [d0]; rfl) (by omega) (by omega) (frX_tr (frX_54 (by decide)) (frX_54 (by decide))) hX
  rw [show 300 * (6 + ru) + ((0 : Nat) : Int) = 300 * (6 + ru) by omega] at this
  exact this
/-- Arrays.fill -/
theorem jFill {a : Nat} {N x : Int} (hN : 0 ≤ N) (hN2 : N < 10000) (hL : ∀ (s1 : Nat → Int → Int) (K : Int → Prop), aln (PS h s1 r) a K = K N) (hS : ∀ (s1 : Nat → Int → Int) (i x : Int) (K : az_H → Prop), stI (PS h s1 r) a .int i x K = (0 ≤ i ∧ i < N ∧ K (PS h (uf s1 a i x) r))) (hq : Q none (PS h (up s a (cps (fun _ => x) (s a) 0 0 N)) r)) : cz G mJ7_fill_53178 d 0 0 [vo a, vi x] (PS h s r) Q := by
  refine vJ7_fill_53178 ?_
  rw [nnR_q, hL]
  have L : ∀ (t : Nat) (i : Int), i = N - t → 0 ≤ i → pJ7_fill_53178_5 G d (some a) x i N (PS h (up s a (cps (fun _ => x) (s a) 0 0 i)) r) Q := by
    intro t
    induction t with
    | zero =>
      intro i hi _
      have : i = N := by omega
      subst this
      refine vJ7_fill_53178_5 ?_
      rw [if_pos (Int.le_refl _)]
      exact hq
    | succ t ih =>
      intro i hi i0
      refine vJ7_fill_53178_5 ?_
      have e2 := cps_s (g := fun _ => x) (g' := s a) (sp := 0) (dp := 0) i0
      simp only [Int.zero_add] at e2
      rw [if_neg (by omega), nnR_q, hS, up_uf, e2, w32_id (x := i + 1) (by omega) (by omega)]
      exact ⟨by omega, by omega, ih (i + 1) (by omega) (by omega)⟩
  have := L N.toNat 0 (by omega) (by omega)
  rw [cps_0, up_same] at this
  exact this
theorem sX4_toStart (hq : ∀ g, eq19 g (stN (s 25)) → Q none (PS h (up s 29 g) r)) : cz G mX4_toStart (d + 1) 0 0 [vo 27] (PS h s r) Q := by
  refine vX4_toStart ?_
  rw [ro_27_2]
  refine jFill (N := 19) (by decide) (by decide) (fun s1 K => al_29) (fun s1 i x K => st_29) ?_
  rw [atV_q]
  have L : ∀ (t : Nat) (i : Int) (g : Int → Int), i = 4 - t → 0 ≤ i → (∀ k, 0 ≤ k → k < 19 → g k = if 14 ≤ k ∧ k < 14 + i then s 25 (k - 14) else 0) → pX4_toStart_10 G d 27 i (PS h (up s 29 g) r) Q := by
    intro t
    induction t with
    | zero =>
      intro i g hi _ hg
      have : i = 4 := by omega
      subst this
      refine vX4_toStart_10 ?_
      rw [if_pos (by decide)]
      refine hq g (fun k k0 k1 => ?_)
      rw [hg k k0 k1]
      unfold stN
      by_cases ck : 14 ≤ k ∧ k < 14 + 4
      · rw [if_pos ck, if_pos (by omega)]
      · rw [if_neg ck, if_neg (by omega)]
    | succ t ih =>
      intro i g hi i0 hg
      refine vX4_toStart_10 ?_
      rw [if_neg (by omega), ro_27_2, ro_27_0, rc_22]
      refine vX9_moneyAtStart ?_
      rw [if_neg (by omega), if_neg (by omega), ro_22_2, ld_25]
      refine ⟨by omega, by omega, ?_⟩
      rw [atI_q, st_29, up_uf, up_ne (by decide), w32_id (x := 14 + i) (by omega) (by omega), w32_id (x := i + 1) (by omega) (by omega)]
      refine ⟨by omega, by omega, ih (i + 1) _ (by omega) (by omega) (fun k k0 k1 => ?_)⟩
      rw [ud_ap, hg k k0 k1]
      by_cases e : k = 14 + i
      · rw [if_pos e, if_pos (by omega), e, show 14 + i - 14 = i by omega]
      · rw [if_neg e]
        by_cases ck : 14 ≤ k ∧ k < 14 + i
        · rw [if_pos ck, if_pos (by omega)]
        · rw [if_neg ck, if_neg (by omega)]
  refine L 4 0 _ (by omega) (by omega) (fun k k0 k1 => ?_)
  unfold cps
  rw [if_pos (by omega), if_neg (by omega)]
theorem sX11_toStart (hq : ∀ g, eq19 g (stN (s 66)) → Q none (PS h (up s 64 g) r)) : cz G mX11_toStart (d + 1) 0 0 [vo 54] (PS h s r) Q := by
  refine vX11_toStart ?_
  have L : ∀ (t : Nat) (i : Int) (g : Int → Int), i = 19 - t → 0 ≤ i → (∀ k, 0 ≤ k → k < i → g k = stN (s 66) k) → pX11_toStart_2 G d 54 i (PS h (up s 64 g) r) Q := by
    intro t
    induction t with
    | zero =>
      intro i g hi _ hg
      have : i = 19 := by omega
      subst this
      refine vX11_toStart_2 ?_
      rw [if_pos (by decide)]
      exact hq g hg
    | succ t ih =>
      intro i g hi i0 hg
      refine vX11_toStart_2 ?_
      rw [if_neg (by omega), ro_54_22]
      have hn : ∀ x, x = stN (s 66) i → ∀ k, 0 ≤ k → k < i + 1 → ud g i x k = stN (s 66) k := by
        intro x hx k k0 k1
        rw [ud_ap]
        by_cases e : k = i
        · rw [if_pos e, hx, e]
        · rw [if_neg e]
          exact hg k k0 (by omega)
      refine sX11_in (fun c1 c2 => ?_) (fun c1 => ?_)
      · rw [atI_q, if_neg (by decide), ro_54_24, ld_66, w32_id (x := i - 14) (by omega) (by omega)]
        refine ⟨by omega, by omega, ?_⟩
        rw [st_64, up_uf, up_ne (by decide), w32_id (x := i + 1) (by omega) (by omega)]
        refine ⟨by omega, by omega, ih (i + 1) _ (by omega) (by omega) (hn _ ?_)⟩
        unfold stN
        rw [if_pos (by omega)]
      · rw [atI_q, if_pos rfl, st_64, up_uf, w32_id (x := i + 1) (by omega) (by omega)]
        refine ⟨by omega, by omega, ih (i + 1) _ (by omega) (by omega) (hn _ ?_)⟩
        unfold stN
        rw [if_neg c1]
  have := L 19 0 (s 64) (by omega) (by omega) (fun k k0 k1 => absurd k1 (by omega))
  rw [up_same] at this
  exact this
end RU
