/-! THE REFERENCE'S MACHINE: the whole loop -/
def RLp (G : az_G) (h : az_H) (r : Nat → Int → Option Nat) (w : Int) (cs : Int → Option Cd) (hk : Int → Option (Int × Int)) (d : Nat) (who : Int) (m : Nat) : Prop :=
  ∀ (c : Cd) (k n v : Int) (N0 : Int → Int) (Q : Option az_V → az_H → Prop) (s : Nat → Int → Int) (z : Z3) (x5 : Int), cs k = some c → 0 ≤ k ∧ k < 6 → REnv s cs hk → rgN N0 → rSt w s z → s 54 32 = 0 → s 54 33 = 0 → tF s (2 - (m : Int)) k n v N0 0 →
  (∀ s' x5', frX s s' → lowF (2 - (m : Int)) s s' → s' 54 34 = 2 - (m : Int) → s' 54 32 = 0 → s' 54 33 = 0 → rSt w s' (exR (exec (hfZ w cs hk m who) w c k who n v (c.1 + 1) 0 [] z) N0).2 → x5' = (if (exR (exec (hfZ w cs hk m who) w c k who n v (c.1 + 1) 0 [] z) N0).1 then 1 else 0) → pX11_run_26 G d 54 who x5' (PS h s' r) Q) →
  pX11_run_26 G d 54 who x5 (PS h s r) Q
theorem frX_m {s s' : Nat → Int → Int} (h1 : ∀ a, a ≠ 54 → a ≠ 69 → a ≠ 71 → s' a = s a) (h2 : ∀ j, j ≠ 30 → j ≠ 32 → s' 54 j = s 54 j) : frX s s' := ⟨fun a x _ t => h1 a x (by omega) (by omega), fun j x y _ _ => h2 j x y⟩
theorem rk_some {o a who n v : Int} {N : Int → Int} {st st' : List Int} (e : rk o a who n v N st = some st') : st' = (rv o a who n v N st).1 :: (rv o a who n v N st).2 := by
  unfold rk psh at e
  split at e
  · exact (Option.some.inj e).symm
  · cases e
section RB2
variable {h : az_H} {s : Nat → Int → Int} {r : Nat → Int → Option Nat} {G : az_G} {d e m : Nat} {Q : Option az_V → az_H → Prop} {w : Int} {cs : Int → Option Cd} {hk : Int → Option (Int × Int)} {z : Z3} {c : Cd} {who k n v u : Int}
theorem rRun26 (hm : m ≤ 2) (hp : ∀ m', m = m' + 1 → RLp G h r w cs hk (e + 3) who m') (hw : 0 ≤ who ∧ who < 4) (hk6 : 0 ≤ k ∧ k < 6) (hcs : cs k = some c) (h300 : c.1 ≤ 300) {dp : Nat → Nat} (d1 : dp c.1 = 0) (hdp : ∀ j, j < c.1 → wIns c dp j ∧ dp j ≤ 31) (s0 : Nat → Int → Int) (X : Option (List Int) × Z3) (N0 : Int → Int) (hN0 : rgN N0)
    (hq : ∀ s' x5', frX s0 s' → lowF (2 - (m : Int)) s0 s' → s' 54 34 = 2 - (m : Int) → s' 54 32 = 0 → s' 54 33 = 0 → rSt w s' (exR X N0).2 → x5' = (if (exR X N0).1 then 1 else 0) → pX11_run_26 G (e + 3) 54 who x5' (PS h s' r) Q) :
    ∀ (f j : Nat) (st : List Int) (z : Z3) (s : Nat → Int → Int) (x5 : Int), REnv s cs hk → rSt w s z → stk st (s 70) → s 54 32 = st.length → s 54 33 = 0 → st.length = dp j → j ≤ c.1 → c.1 - j ≤ f → frX s0 s → lowF (2 - (m : Int)) s0 s → tF s (2 - (m : Int)) k n v N0 j → exec (hfZ w cs hk m who) w c k who n v f j st z = X →
    pX11_run_26 G (e + 3) 54 who x5 (PS h s r) Q := by
  have hend : ∀ (st : List Int) (z : Z3) (s : Nat → Int → Int) (x5 : Int), REnv s cs hk → rSt w s z → s 54 32 = st.length → s 54 33 = 0 → st.length = dp c.1 → frX s0 s → lowF (2 - (m : Int)) s0 s → tF s (2 - (m : Int)) k n v N0 c.1 → (some st, z) = X → pX11_run_26 G (e + 3) 54 who x5 (PS h s r) Q := by
    intro st z s x5 hE hst ht hb hd hfr hlo hT hX
    subst hX
    refine r_end hm hT hk6 ((hE.1 k hk6.1 hk6.2).2 c hcs).2.1 ?_
    exact hq _ 1 (frX_tr hfr (frX_54 (by decide))) (lowF_tr (Int.le_refl _) hlo (lowF_eq (fun a x y => up_ne (by omega)))) rfl (by show s 54 32 = 0; rw [ht, hd, d1]; rfl) hb (rSt_fr rfl rfl rfl rfl hst) rfl
  have hfail : ∀ (s' : Nat → Int → Int) (z' : Z3), frX s0 s' → lowF (2 - (m : Int)) s0 s' → s' 54 34 = 2 - (m : Int) + 1 → (∀ i, 0 ≤ i → i < 19 → s' 75 (19 * (2 - (m : Int)) + i) = N0 i) → s' 54 32 = 0 → s' 54 33 = 0 → rSt w s' z' → (none, z') = X → cz G mX11_fail (e + 3) 0 0 [vo 54] (PS h s' r) (fun v h18 => atV v (pX11_run_26 G (e + 3) 54 who 0 h18 Q)) := by
    intro s' z' q1 q2 q3 q4 q5 q6 q7 hX
    subst hX
    refine sX11_fail (d := e + 2) q3 (by omega) (by omega) ?_
    rw [atV_q]
    exact hq _ 0 (frX_tr q1 (frX_tr (frX_54 (by decide)) (frX_up (by decide)))) (lowF_tr (Int.le_refl _) q2 (lowF_eq (fun a x y => by rw [up_ne (by omega), uf, up_ne (by omega)]))) rfl q5 q6 (fail_St q7 hN0 q4) rfl
  intro f
  induction f with
  | zero =>
    intro j st z s x5 hE hst hs ht hb hd hj hf hfr hlo hT hX
    have : j = c.1 := by omega
    subst this
    exact hend st z s x5 hE hst ht hb hd hfr hlo hT hX
  | succ f ih =>
    intro j st z s x5 hE hst hs ht hb hd hj hf hfr hlo hT hX
    rw [exec_s] at hX
    by_cases hj2 : c.1 ≤ j
    · have : j = c.1 := by omega
      subst this
      rw [if_pos (Nat.le_refl _)] at hX
      exact hend st z s x5 hE hst ht hb hd hfr hlo hT hX
    rw [if_neg hj2] at hX
    have hjc : j < c.1 := by omega
    obtain ⟨hwi, hd31⟩ := hdp j hjc
    have hC := ((hE.1 k hk6.1 hk6.2).2 c hcs).2.1
    have hcj := hC.2 j hjc
    generalize hs1 : uf s 71 (2 - (m : Int)) (j + 1) = s1
    refine r_go hm hT hk6 hC hjc h300 hs1.symm ?_
    obtain ⟨t1, t2, t3, t4, t5, t6⟩ := hT
    have hfr1 : frX s0 s1 := by rw [← hs1]; exact frX_tr hfr (frX_uf (by decide))
    have hlo1 : lowF (2 - (m : Int)) s0 s1 := by rw [← hs1]; exact lowF_tr (Int.le_refl _) hlo lowF_71
    have hE1 : REnv s1 cs hk := REnv_fr (by rw [← hs1]; exact frX_uf (by decide)) hE
    have hst1 : rSt w s1 z := by rw [← hs1]; exact rSt_fr rfl rfl rfl rfl hst
    have hs1' : stk st (s1 70) := by rw [← hs1]; exact hs
    have ht1 : s1 54 32 = st.length := by rw [← hs1]; exact ht
    have hb1 : s1 54 33 = 0 := by rw [← hs1]; exact hb
    have hT1 : tF s1 (2 - (m : Int)) k n v N0 (j + 1) := by
      rw [← hs1]
      refine ⟨t1, ?_, t3, t4, t5, t6⟩
      show ud (s 71) _ _ _ = _
      rw [ud_at]
      omega
    have hO1 : s1 56 (300 * k + j) = c.2.1 j := by rw [← hs1]; exact hcj.1
    have hA1 : s1 57 (300 * k + j) = c.2.2.1 j := by rw [← hs1]; exact hcj.2.1
    have hG1 : c.2.1 j = 23 → s1 58 (300 * k + j) = c.2.2.2 j := by rw [← hs1]; exact hcj.2.2
    clear hs1 hst hs ht hb t1 t2 t3 t4 t5 t6 hE hfr hlo hC hcj
    by_cases ho20 : c.2.1 j < 20
    · rw [if_pos ho20] at hX
      rw [if_neg (by omega)]
      have ho : 1 ≤ c.2.1 j ∧ c.2.1 j ≤ 18 := by rcases hwi with x | x | x | x <;> omega
      have hsn := rv_snd (c.2.1 j) (c.2.2.1 j) who n v z.1 st
      have hpre : (c.2.1 j = 9 ∨ c.2.1 j = 10 → 1 ≤ st.length) ∧ (11 ≤ c.2.1 j → 2 ≤ st.length) := by
        constructor <;> intro hx <;> rcases hwi with x | x | x | x <;> omega
      have harg : (c.2.1 j = 2 → 0 ≤ c.2.2.1 j ∧ c.2.2.1 j ≤ 7) ∧ (c.2.1 j = 7 → 0 ≤ c.2.2.1 j ∧ c.2.2.1 j ≤ 1) ∧ (c.2.1 j = 8 → 0 ≤ c.2.2.1 j ∧ c.2.2.1 j ≤ 3) := by
        rcases hwi with x | x | x | x
        · exact x.2.2.2.2
        · refine ⟨fun _ => ?_, fun _ => ?_, fun _ => ?_⟩ <;> omega
        · refine ⟨fun _ => ?_, fun _ => ?_, fun _ => ?_⟩ <;> omega
        · refine ⟨fun _ => ?_, fun _ => ?_, fun _ => ?_⟩ <;> omega
      have hsl : (rv (c.2.1 j) (c.2.2.1 j) who n v z.1 st).2.length + 1 = dp (j + 1) := by
        rcases hwi with x | x | x | x
        · rw [hsn.1 x.1 x.2.1]; omega
        · rw [hsn.2.1 (by omega), List.length_tail]; omega
        · rw [hsn.2.2 (by omega), List.length_tail, List.length_tail]; omega
        · exact absurd x.1 (by omega)
      refine sX11_reckon (d := e) hst1.1 hst1.2.2.2.2 hs1' ht1 (by omega) hb1 hw ho hpre harg (fun s' st' q1 q2 q3 q4 q5 => ?_) (fun s' q1 q2 q3 => ?_)
      · rw [atV_q, ri_54_33, q3, if_pos rfl]
        have el := rk_some q1
        simp only [q1] at hX
        refine ih (j + 1) st' z s' x5 (REnv_fr (frX_r q2) hE1) (rSt_r q2 hst1) q4 q5 q3 (by rw [el, List.length_cons]; exact hsl) (by omega) (by omega) (frX_tr hfr1 (frX_r q2)) (lowF_tr (Int.le_refl _) hlo1 (lowF_eq (fun a x y => q2.1 a (by omega) (by omega)))) (tF_eq (fun a x y => q2.1 a (by omega) (by omega)) (q2.2 34 (by decide) (by decide)) hT1) hX
      · rw [atV_q, ri_54_33, q3, if_neg (by decide), rc_54]
        simp only [q1] at hX
        subst hX
        have hT2 := tF_eq (fun a x y => q2.1 a (by omega) (by omega)) (q2.2 34 (by decide) (by decide)) hT1
        refine sX11_fail (d := e + 2) hT2.1 (by omega) (by omega) ?_
        rw [atV_q, wb_54_33_0, wi_54_32]
        refine hq _ 0 (frX_tr hfr1 (frX_tr (frX_r q2) (frX_tr (frX_tr (frX_tr (frX_54 (by decide)) (frX_up (by decide))) (frX_54 (by decide))) (frX_54 (by decide))))) (lowF_tr (Int.le_refl _) hlo1 (lowF_eq (fun a x y => ?_))) rfl rfl rfl (rSt_fr rfl rfl rfl rfl (fail_St (rSt_r q2 hst1) hN0 hT2.2.2.2.2.2)) rfl
        show up (up (up (up s' 54 _) 64 _) 54 _) 54 _ a = _
        rw [up_ne (by omega), up_ne (by omega), up_ne (by omega), up_ne (by omega)]
        exact q2.1 a (by omega) (by omega)
    rw [if_neg ho20] at hX
    rw [if_pos (by omega)]
    have hac : 20 ≤ c.2.1 j ∧ c.2.1 j ≤ 23 ∧ dp j = 1 ∧ dp (j + 1) = 0 ∧ 0 ≤ c.2.2.1 j ∧ (c.2.1 j = 20 ∨ c.2.1 j = 23 → c.2.2.1 j ≤ 11) ∧ (c.2.1 j = 21 → c.2.2.1 j ≤ 7) ∧ (c.2.1 j = 23 → (j : Int) < c.2.2.2 j ∧ c.2.2.2 j ≤ c.1 ∧ dp (c.2.2.2 j).toNat = 0) := by
      rcases hwi with x | x | x | x
      · exact absurd x.2.1 (by omega)
      · exact absurd x.2.1 (by omega)
      · exact absurd x.2.1 (by omega)
      · exact x
    clear hwi
    obtain ⟨x, rfl⟩ : ∃ x, st = [x] := by
      match st, hd with
      | [x], _ => exact ⟨x, rfl⟩
      | [], hd => exact absurd hd (by rw [hac.2.2.1]; decide)
      | _ :: _ :: _, hd => exact absurd hd (by rw [hac.2.2.1]; simp)
    rw [show ([x] : List Int).headD 0 = x from rfl] at hX
    have n0' : ([] : List Int).length = dp (j + 1) := by rw [hac.2.2.2.1]; rfl
    have hS : 0 ≤ 300 * k + (j : Int) ∧ 300 * k + (j : Int) < 4500 := by omega
    by_cases h20 : c.2.1 j = 20
    · rw [if_pos h20] at hX
      refine a_need (d := e + 2) hS (hO1.trans h20) hA1 ⟨hac.2.2.2.2.1, hac.2.2.2.2.2.1 (Or.inl h20)⟩ hk6 hst1 hs1' ht1 (fun s' q1 q2 q3 q4 => ?_)
      have f2 : frX s1 s' := frX_m (fun a x y _ => q1 a x y) q2
      have hT2 := tF_eq (fun a x y => q1 a (by omega) (by omega)) (q2 34 (by decide) (by decide)) hT1
      have l2 : lowF (2 - (m : Int)) s0 s' := lowF_tr (Int.le_refl _) hlo1 (lowF_eq (fun a x y => q1 a (by omega) (by omega)))
      have b2 : s' 54 33 = 0 := (q2 33 (by decide) (by decide)).trans hb1
      by_cases cx : x = 0
      · rw [if_pos cx] at hX
        rw [if_pos cx] at q4
        rw [if_pos cx, atI_q, if_pos rfl, rc_54]
        exact hfail s' _ (frX_tr hfr1 f2) l2 hT2.1 hT2.2.2.2.2.2 q3 b2 q4 hX
      · rw [if_neg cx] at hX
        rw [if_neg cx, Int.add_zero] at q4
        rw [if_neg cx, atI_q, if_neg (by decide)]
        exact ih (j + 1) [] _ s' x5 (REnv_fr f2 hE1) q4 trivial q3 b2 n0' (by omega) (by omega) (frX_tr hfr1 f2) l2 hT2 hX
    rw [if_neg h20] at hX
    by_cases h23 : c.2.1 j = 23
    · rw [if_pos h23] at hX
      have hg := hac.2.2.2.2.2.2.2 h23
      refine a_if (d := e + 2) hS (hO1.trans h23) hA1 (hG1 h23) ⟨hac.2.2.2.2.1, hac.2.2.2.2.2.1 (Or.inr h23)⟩ hk6 (by omega) hst1 hs1' ht1 (fun s' q1 q71 q2 q3 q4 => ?_)
      have f2 : frX s1 s' := frX_m q1 q2
      have l2 : lowF (2 - (m : Int)) s0 s' := by
        refine lowF_tr (Int.le_refl _) hlo1 ⟨fun i hi => ⟨?_, ?_, ?_, ?_⟩, fun i hi => ?_⟩
        · rw [q71]; exact ud_ne (by omega)
        · rw [q1 72 (by decide) (by decide) (by decide)]
        · rw [q1 73 (by decide) (by decide) (by decide)]
        · rw [q1 74 (by decide) (by decide) (by decide)]
        · rw [q1 75 (by decide) (by decide) (by decide)]
      have b2 : s' 54 33 = 0 := (q2 33 (by decide) (by decide)).trans hb1
      have hT2 : ∀ j' : Nat, (if x = 0 then c.2.2.2 j else s1 71 (2 - (m : Int))) = j' → tF s' (2 - (m : Int)) k n v N0 j' := by
        intro j' ej
        unfold tF
        rw [q1 72 (by decide) (by decide) (by decide), q1 73 (by decide) (by decide) (by decide), q1 74 (by decide) (by decide) (by decide), q1 75 (by decide) (by decide) (by decide), q2 34 (by decide) (by decide), q71, ud_at]
        exact ⟨hT1.1, ej, hT1.2.2⟩
      rw [atI_q, if_neg (by decide)]
      by_cases cx : x = 0
      · rw [if_pos cx] at hX
        rw [if_pos cx] at q4
        rw [if_pos cx] at hT2
        exact ih (c.2.2.2 j).toNat [] _ s' x5 (REnv_fr f2 hE1) q4 trivial q3 b2 (by rw [hg.2.2]; rfl) (by omega) (by omega) (frX_tr hfr1 f2) l2 (hT2 _ (by omega)) hX
      · rw [if_neg cx] at hX
        rw [if_neg cx, Int.add_zero] at q4
        rw [if_neg cx] at hT2
        exact ih (j + 1) [] _ s' x5 (REnv_fr f2 hE1) q4 trivial q3 b2 n0' (by omega) (by omega) (frX_tr hfr1 f2) l2 (hT2 _ hT1.2.1) hX
    rw [if_neg h23] at hX
    by_cases h21 : c.2.1 j = 21
    · rw [if_pos h21] at hX
      have hx := hs1'.2.1
      refine a_set (d := e + 2) hS (hO1.trans h21) hA1 ⟨hac.2.2.2.2.1, hac.2.2.2.2.2.2.1 h21⟩ hw hs1' ht1 ?_
      rw [atI_q, if_neg (by decide)]
      have f2 : frX s1 (uf (uf s1 54 32 0) 64 (cellI (c.2.2.1 j) who) x) := frX_tr (frX_54 (by decide)) (frX_uf (by decide))
      exact ih (j + 1) [] (ud z.1 (cellI (c.2.2.1 j) who) x, z.2) _ x5 (REnv_fr f2 hE1) ⟨eq19_ud hst1.1, hst1.2.1, hst1.2.2.1, hst1.2.2.2.1, rgN_ud hst1.2.2.2.2 (by omega) (by omega)⟩ trivial rfl hb1 n0' (by omega) (by omega) (frX_tr hfr1 f2) (lowF_tr (Int.le_refl _) hlo1 (lowF_eq (fun a x y => by rw [uf, up_ne (by omega), uf, up_ne (by omega)]))) (tF_eq (fun a x y => by rw [uf, up_ne (by omega), uf, up_ne (by omega)]) rfl hT1) hX
    rw [if_neg h21] at hX
    have hu : s1 54 34 = 3 - (m : Int) := by rw [hT1.1]; omega
    refine a_pay (d := e + 1) (u := 3 - (m : Int)) hE1 hS (hO1.trans (by omega)) hw hst1 hs1' ht1 hu (by omega) (by omega) (fun y => ?_) (fun s' y1 y2 q1 f2 qa q54 q3 q4 => ?_) (fun s' q c' y1 y2 hkq u3 hcq yq q1 f2 l2 hT2 q3 b2 => ?_)
    · rw [atI_q, if_pos rfl, rc_54]
      have hX' : (none, z) = X := by
        rw [← hX]
        by_cases y0 : x < 0
        · rw [if_pos y0]
        · rw [if_neg y0, if_pos (by omega)]
      exact hfail _ _ (frX_tr hfr1 (frX_54 (by decide))) (lowF_tr (Int.le_refl _) hlo1 (lowF_eq (fun a x y => up_ne (by omega)))) hT1.1 hT1.2.2.2.2.2 rfl hb1 (rSt_fr rfl rfl rfl rfl hst1) hX'
    · rw [if_neg y1, if_neg y2] at hX
      rw [atI_q, if_neg (by decide)]
      have eh : hfZ w cs hk m who (payZ who x z) = payZ who x z := by
        unfold hfZ
        rcases q4 with q4 | q4 | ⟨q, q4, q5⟩
        · simp only [q4]
        · have : m = 0 := by omega
          subst this
          cases hk who with
          | none => rfl
          | some q => rfl
        · simp only [q4]
          rw [perf_n q5]
      rw [eh] at hX
      exact ih (j + 1) [] _ s' x5 (REnv_fr f2 hE1) q1 trivial q3 ((q54 33 (by decide)).trans hb1) n0' (by omega) (by omega) (frX_tr hfr1 f2) (lowF_tr (Int.le_refl _) hlo1 (lowF_eq (fun a x y => qa a (by omega) (by omega)))) (tF_eq (fun a x y => qa a (by omega) (by omega)) (q54 34 (by decide)) hT1) hX
    · rw [if_neg y1, if_neg y2] at hX
      rw [atI_q, if_neg (by decide)]
      obtain ⟨m', rfl⟩ : ∃ m', m = m' + 1 := ⟨m - 1, by omega⟩
      have eu : 3 - ((m' + 1 : Nat) : Int) = 2 - (m' : Int) := by omega
      rw [eu] at hT2 l2
      have eh : hfZ w cs hk (m' + 1) who (payZ who x z) = (exR (exec (hfZ w cs hk m' who) w c' q.1 who q.2 0 (c'.1 + 1) 0 [] (entZ who 0 (payZ who x z))) (payZ who x z).1).2 := by
        rw [← perf_s hcq yq]
        unfold hfZ
        simp only [hkq]
      have q6 := (hE1.2 who hw.1 hw.2).2 q hkq
      refine hp m' rfl c' q.1 q.2 0 (payZ who x z).1 Q s' _ x5 hcq q6.1 (REnv_fr f2 hE1) ?_ q1 q3 (b2.trans hb1) hT2 (fun s'' x5' g1 g2 g3 g4 g5 g6 _ => ?_)
      · exact rgN_ud (rgN_ud hst1.2.2.2.2 (w32_lo _) (w32_hi _)) (w32_lo _) (w32_hi _)
      rw [← eh] at g6
      have l3 := lowF_tr (Int.le_refl _) l2 g2
      refine ih (j + 1) [] _ s'' x5' (REnv_fr (frX_tr f2 g1) hE1) g6 trivial g4 g5 n0' (by omega) (by omega) (frX_tr hfr1 (frX_tr f2 g1)) (lowF_tr (by omega) hlo1 l3) ?_ hX
      obtain ⟨t1, t2, t3, t4, t5, t6⟩ := hT1
      have l3' := l3.1 (2 - ((m' + 1 : Nat) : Int)) (by omega)
      refine ⟨by rw [g3]; omega, l3'.1.trans t2, l3'.2.1.trans t3, l3'.2.2.1.trans t4, l3'.2.2.2.trans t5, fun i i0 i1 => (l3.2 _ (by omega)).trans (t6 i i0 i1)⟩
theorem rLp0 (hm : m ≤ 2) (hw : 0 ≤ who ∧ who < 4) (hp : ∀ m', m = m' + 1 → RLp G h r w cs hk (e + 3) who m') : RLp G h r w cs hk (e + 3) who m := by
  intro c k n v N0 Q s z x5 hcs hk6 hE hN0 hst ht hb hT hq
  obtain ⟨h300, dp, d0, d1, hdp⟩ := ((hE.1 k hk6.1 hk6.2).2 c hcs).2.2
  exact rRun26 hm hp hw hk6 hcs h300 d1 hdp s _ N0 hN0 hq (c.1 + 1) 0 [] z s x5 hE hst trivial ht hb (by rw [d0]; rfl) (by omega) (by omega) frX_rf (lowF_eq (fun _ _ _ => rfl)) hT rfl
theorem rLp (hw : 0 ≤ who ∧ who < 4) : ∀ m, m ≤ 2 → RLp G h r w cs hk (e + 3) who m
  | 0, hm => rLp0 hm hw (fun m' h => absurd h (by omega))
  | m + 1, hm => rLp0 hm hw (fun m' h => by
      have : m' = m := by omega
      subst this
      exact rLp hw m' (by omega))
/-- a call, from the reference -/
theorem sX11_run (hE : REnv s cs hk) (hst : rSt w s z) (hw : 0 ≤ who ∧ who < 4) (hk6 : 0 ≤ k ∧ k < 6) (hq : ∀ s', rSt w s' (perf w cs hk 3 who k n v z).2 → frX s s' → Q (some (vi (if (perf w cs hk 3 who k n v z).1 then 1 else 0))) (PS h s' r)) : cz G mX11_run (d + 4) 0 0 [vo 54, vi who, vi k, vi n, vi v] (PS h s r) Q := by
  refine vX11_run ?_
  rw [wi_54_34, rc_54]
  have f1 : frX s (uf s 54 34 0) := frX_54 (by decide)
  refine sX11_enter (d := d + 2) (u := 0) (REnv_fr f1 hE) (rSt_fr rfl rfl rfl rfl hst) hw hk6 rfl (by decide) (by decide) (fun y => ?_) (fun c s' y1 y2 y3 y4 y5 y6 y7 y8 y9 => ?_)
  · rw [atI_q, wi_54_32, wb_54_33_0]
    refine vX11_run_26 ?_
    rw [ri_54_34, if_pos (by show (0 : Int) ≤ 0; decide), fit0]
    rw [perf_n y] at hq
    exact ⟨trivial, hq _ (rSt_fr rfl rfl rfl rfl hst) (frX_tr (frX_tr f1 (frX_54 (by decide))) (frX_54 (by decide)))⟩
  · rw [atI_q, wi_54_32, wb_54_33_0]
    have f2 : frX s' (uf (uf s' 54 32 0) 54 33 0) := frX_tr (frX_54 (by decide)) (frX_54 (by decide))
    refine rLp hw 2 (Nat.le_refl _) c k n v z.1 Q _ (entZ who v z) 1 y1 hk6 (REnv_fr (frX_tr f1 (frX_tr y4 f2)) hE) hst.2.2.2.2 (rSt_fr rfl rfl rfl rfl y3) rfl rfl (tF_eq (fun a x y => by rw [uf, up_ne (by omega), uf, up_ne (by omega)]) rfl y6) (fun s'' x5' g1 g2 g3 g4 g5 g6 g7 => ?_)
    refine vX11_run_26 ?_
    rw [ri_54_34, g3, if_pos (by decide)]
    rw [← perf_s y1 y2] at g6 g7
    subst g7
    refine ⟨?_, hq s'' g6 (frX_tr f1 (frX_tr y4 (frX_tr f2 g1)))⟩
    cases (perf w cs hk 3 who k n v z).1
    · rw [if_neg (by decide), fit0]; trivial
    · rw [if_pos rfl, fit1]; trivial
end RB2
