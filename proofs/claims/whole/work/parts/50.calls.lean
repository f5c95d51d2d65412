/-! START, ACTOR, CALL, HOLDS -/
theorem eq19_rf {g : Int → Int} : eq19 g g := fun _ _ _ => rfl
theorem eq19_tr {g g' g'' : Int → Int} (h1 : eq19 g g') (h2 : eq19 g' g'') : eq19 g g'' := fun k k0 k1 => (h1 k k0 k1).trans (h2 k k0 k1)
theorem eq19_sy {g g' : Int → Int} (h1 : eq19 g g') : eq19 g' g := fun k k0 k1 => (h1 k k0 k1).symm
theorem rgN_eq {g g' : Int → Int} (h1 : eq19 g g') (hr : rgN g') : rgN g := fun k k0 k1 => by rw [h1 k k0 k1]; exact hr k k0 k1
theorem stN_eq {M M' : Int → Int} (hM : ∀ i, 0 ≤ i → i < 4 → M i = M' i) : eq19 (stN M) (stN M') := by
  intro k k0 k1
  unfold stN
  by_cases c : 14 ≤ k ∧ k ≤ 17
  · rw [if_pos c, if_pos c]; exact hM _ (by omega) (by omega)
  · rw [if_neg c, if_neg c]
theorem stN_rg {M : Int → Int} (hM : ∀ i, 0 ≤ i → i < 4 → 0 ≤ M i ∧ M i ≤ 1000000) : rgN (stN M) := by
  intro k k0 k1
  unfold stN
  by_cases c : 14 ≤ k ∧ k ≤ 17
  · rw [if_pos c]
    have := hM (k - 14) (by omega) (by omega)
    omega
  · rw [if_neg c]; omega
section CA
variable {h : az_H} {s : Nat → Int → Int} {r : Nat → Int → Option Nat} {G : az_G} {d D : Nat} {Q : Option az_V → az_H → Prop} {cs : Int → Option Cd} {hk : Int → Option (Int × Int)} {ru : Int → Cd} {xs : List Int} {hh : az_H} {a b c e : Int}
theorem sX4_load53 (hq : Q none (PS h (up s 29 (cps (s 53) (s 29) 0 0 19)) r)) : cz G mX4_load (d + 1) 0 0 [vo 27, vo 53, vi 0] (PS h s r) Q := by
  refine vX4_load ?_
  rw [if_neg (by decide), nnR_q, al_53, if_neg (by decide), ro_27_2, cp_53_29]
  exact ⟨by decide, by decide, by decide, by decide, by decide, hq⟩
theorem sX4_save53 (hq : Q none (PS h (up s 53 (cps (s 29) (s 53) 0 0 19)) r)) : cz G mX4_save (d + 1) 0 0 [vo 27, vo 53, vi 0] (PS h s r) Q := by
  refine vX4_save ?_
  rw [if_neg (by decide), nnR_q, al_53, if_neg (by decide), ro_27_2, cp_29_53]
  exact ⟨by decide, by decide, by decide, by decide, by decide, hq⟩
theorem sX10_showStart (hq : ∀ g g', eq19 g' (stN (s 25)) → Q none (PS h (uf (up (up s 29 g) 53 g') 16 11 0) r)) : cz G mX10_showStart (d + 2) 0 0 [vo 16] (PS h s r) Q := by
  refine vX10_showStart ?_
  rw [ro_16_3, rc_27]
  refine sX4_toStart (fun g hg => ?_)
  rw [atV_q, ro_16_3, ro_16_9, rc_27]
  refine sX4_save53 ?_
  rw [atV_q, wi_16_11]
  exact hq g _ (eq19_cps hg)
theorem eq19_cpu {g N g' : Int → Int} (hN : eq19 g N) : eq19 (cps g g' 0 (19 * 0) 19) N := eq19_cps hN
theorem eq19_cpv {g N g' : Int → Int} (hN : eq19 g N) : eq19 (cps g g' (19 * 0) 0 19) N := eq19_cps hN
theorem sX11_begins (hq : ∀ g g', eq19 g' (stN (s 66)) → Q none (PS h (uf (up (up s 64 g) 65 g') 54 27 0) r)) : cz G mX11_begins (d + 2) 0 0 [vo 54] (PS h s r) Q := by
  refine vX11_begins ?_
  rw [rc_54]
  refine sX11_toStart (fun g hg => ?_)
  rw [atV_q, ro_54_23, rc_54]
  refine rSave (N := 19) (by decide) (fun s1 i x K => st_65) (by decide) (by decide) (by decide) ?_
  rw [atV_q, wi_54_27]
  exact hq g _ (eq19_cpu hg)
theorem st_start : stp xs (Inv xs) G (D + 3) 0 0 mX10_start mX11_start [] := by
  refine stp_i (fun h s r cs hk ru hc hJ => ?_)
  have hA := hJ.2.2.2.2.2.2.1
  have hM := hJ.2.2.2.2.2.2.2.1
  have hS := hJ.2.2.2.2.2.2.2.2.1
  refine vX10_start ?_
  rw [ri_16_11, rc_16]
  refine sX10_showStart (fun g g' hg => ?_)
  rw [atV_q]
  refine aft_i hc ?_
  refine vX11_start ?_
  rw [ri_54_27, rc_54]
  refine sX11_begins (fun q q' hg2 => ?_)
  rw [atV_q]
  have hg2' : eq19 q' (stN (s 66)) := hg2
  refine fin_i hS.2.2.symm (J_S ?_ ?_ ?_ hJ)
  · exact scE_tr (scE_tr (scE_tr (scE_tr (scE_tr (scE_up (fun k x => by unfold pers psA psK at x; unfold eS; omega)) (scE_up (fun k x => by unfold pers psA psK at x; unfold eS; omega))) (scE_uf (fun x => by unfold pers psA psK at x; unfold eS; omega))) (scE_up (fun k x => by unfold pers psA psK at x; unfold eS; omega))) (scE_up (fun k x => by unfold pers psA psK at x; unfold eS; omega))) (scE_uf (fun x => by unfold pers psA psK at x; unfold eS; omega))
  · exact jM_e rfl rfl rfl rfl hM
  · refine ⟨?_, ?_, rfl⟩
    · show eq19 g' q'
      exact eq19_tr hg (eq19_tr (stN_eq (fun i i0 i1 => (hA i i0 i1).1)) (eq19_sy hg2'))
    · show rgN q'
      exact rgN_eq hg2' (stN_rg (fun i i0 i1 => (hA i i0 i1).2))
/-- a new Call -/
theorem hset_psh {c c' : az_C} : hset (hpsh h c) h.2 c' = hpsh h c' := by
  refine Prod.ext (funext fun j => ?_) rfl
  show (if j = h.2 then c' else if j = h.2 then c else h.1 j) = if j = h.2 then c' else h.1 j
  by_cases x : j = h.2
  · rw [if_pos x, if_pos x]
  · rw [if_neg x, if_neg x, if_neg x]
theorem hpsh_at {c : az_C} : (hpsh h c).1 h.2 = c := if_pos rfl
theorem sX0_new (h9 : 89 ≤ h.2) (hq : Q none (PS (hpsh h (cO 0 [vi a, vi b, vi c, vi e])) s r)) : cz G mX0_init (d + 1) 0 0 [vo h.2, vi a, vi b, vi c, vi e] (PS (hpsh h (cO 0 [vi 0, vi 0, vi 0, vi 0])) s r) Q := by
  have key : ∀ c0 c1 : az_C, hset (PS (hpsh h c0) s r) h.2 c1 = PS (hpsh h c1) s r := fun c0 c1 => by rw [PS_dyn h9, hset_psh]
  have at' : ∀ c0 : az_C, (PS (hpsh h c0) s r).1 h.2 = c0 := fun c0 => (PS_out h9).trans hpsh_at
  refine vX0_init ?_
  refine wrF_i (at' _) trivial ?_
  rw [key]
  refine wrF_i (at' _) trivial ?_
  rw [key]
  refine wrF_i (at' _) trivial ?_
  rw [key]
  refine wrF_i (at' _) trivial ?_
  rw [key]
  exact hq
theorem cst_psh {c0 : az_C} (hj : jH h) (hc : ∀ i, i < 16 → h.1 i = con0 xs i) : ∀ i, i < 16 → (hpsh h c0).1 i = con0 xs i := by
  intro i hi
  have := hj.1
  rw [hx_psh i (by omega)]
  exact hc i hi
/-- call -/
theorem st_call : stp xs (Inv xs) G (D + 12) 1 4 mX10_call mX11_call [vi a, vi b, vi c, vi e] := by
  refine stp_i (fun h s r cs hk ru hc hJ => ?_)
  obtain ⟨a1, a2, a3, a4, a5, a6, a7, a8, a9, a10, a11, a12, a13⟩ := hJ
  have hJ : J h s r cs hk ru := ⟨a1, a2, a3, a4, a5, a6, a7, a8, a9, a10, a11, a12, a13⟩
  refine vX10_call (d := D + 11) ?_
  refine sX10_isCall (d := D + 10) (fun ok => ?_) (fun nok => ?_)
  · rw [atI_q, if_neg (by decide), ro_16_3, ro_16_9, rc_27]
    refine sX4_load53 (d := D + 10) ?_
    rw [atV_q, ro_16_3, nwO_q a1.1]
    refine sX0_new (d := D + 10) a1.1 ?_
    rw [atV_q, rc_27]
    generalize hh' : hpsh h (cO 0 [vi a, vi b, vi c, vi e]) = h'
    have x' : hx h h' := by rw [← hh']; exact hx_psh
    have j' : jH h' := by rw [← hh']; exact jH_psh a1
    have hJ' : J h' s r cs hk ru := J_x x' j' hJ
    have hc' : ∀ i, i < 16 → h'.1 i = con0 xs i := by rw [← hh']; exact cst_psh a1 hc
    have hcl : isCl h' r h.2 a b c e := fun s' => (PS_out a1.1).trans (by rw [← hh']; exact hpsh_at)
    have hst0 : cSt 0 (up s 29 (cps (s 53) (s 29) 0 0 19)) (s 65, s 69, s 22 5) := ⟨eq19_cps a9.1, a8.1, rfl, a8.2.1, a9.2.1⟩
    refine sX4_attempt (d := D) (w := 0) hJ'.2.1 hst0 hcl (by omega) (by omega) (fun s1 q1 q2 => ?_)
    rw [atI_q, ro_16_3, ro_16_9, rc_27]
    refine sX4_save53 (d := D + 10) ?_
    rw [atV_q, ri_16_11, wi_16_11]
    generalize hP : perf 0 cs hk 3 a b c e (s 65, s 69, s 22 5) = P at q1
    have pq : P.2.2 = (s 69, s 22 5) := by rw [← hP]; exact perf_q0 3
    have e16 : s1 16 = s 16 := q2 16 (by decide) (by decide) (by decide) (by decide) (by decide) (by decide)
    have e54 : ∀ x, 54 ≤ x → s1 x = s x := fun x hx => (q2 x (by omega) (by omega) (by omega) (by omega) (by omega) (by omega)).trans (up_ne (by omega))
    rw [show up s1 53 (cps (s1 29) (s1 53) 0 0 19) 16 = s 16 from e16]
    have fin : aft xs G (D + 12) mX11_call [vi a, vi b, vi c, vi e] (some (vi (if P.1 then 1 else 0))) (PS h' (uf (up s1 53 (cps (s1 29) (s1 53) 0 0 19)) 16 11 (w32 (s 16 11 + 1))) r) := by
      generalize hs2 : uf (up s1 53 (cps (s1 29) (s1 53) 0 0 19)) 16 11 (w32 (s 16 11 + 1)) = s2
      have f54 : ∀ x, 54 ≤ x → s2 x = s x := fun x hx => by
        rw [← hs2, uf, up_ne (by omega), up_ne (by omega)]
        exact e54 x hx
      refine aft_i hc' ?_
      refine vX11_call (d := D + 11) ?_
      refine sX11_isCall (d := D + 10) (fun _ => ?_) (fun nok => absurd ok nok)
      rw [atI_q, if_neg (by decide), ro_54_23, rc_54]
      refine rLoad (N := 19) (by decide) (fun s1 i K => ld_65) (by decide) (by decide) (by decide) ?_
      rw [atV_q, rc_54]
      have hst2 : rSt 0 (up s2 64 (cps (s2 65) (s2 64) (19 * 0) 0 19)) (s 65, s 69, s 54 30) := by
        refine ⟨?_, fun i _ _ => ?_, ?_, ?_, a9.2.1⟩
        · show eq19 (cps (s2 65) (s2 64) (19 * 0) 0 19) (s 65)
          rw [f54 65 (by decide)]
          exact eq19_cpv eq19_rf
        · show s2 69 i = s 69 i
          rw [f54 69 (by decide)]
        · show s2 54 30 = _
          rw [f54 54 (by decide)]
        · show s2 54 29 = 0
          rw [f54 54 (by decide)]
          exact a8.2.2
      have hE2 : REnv (up s2 64 (cps (s2 65) (s2 64) (19 * 0) 0 19)) cs hk := REnv_e (f54 56 (by decide)) (f54 57 (by decide)) (f54 58 (by decide)) (f54 59 (by decide)) (f54 61 (by decide)) (f54 67 (by decide)) (f54 68 (by decide)) a3
      refine sX11_run (d := D + 7) hE2 hst2 (by omega) (by omega) (fun s3 q3 q4 => ?_)
      rw [atI_q, ro_54_23, rc_54]
      refine rSave (N := 19) (by decide) (fun s1 i x K => st_65) (by decide) (by decide) (by decide) ?_
      rw [atV_q, ri_54_27, wi_54_27]
      have pin := perf_in (w := 0) (w' := 0) (cs := cs) (hk := hk) 3 (who := a) (k := b) (n := c) (v := e) (z := (s 65, s 69, s 22 5)) (z' := (s 65, s 69, s 54 30)) rfl
      have pq2 : (perf 0 cs hk 3 a b c e (s 65, s 69, s 54 30)).2.2 = (s 69, s 54 30) := perf_q0 3
      generalize perf 0 cs hk 3 a b c e (s 65, s 69, s 54 30) = P2 at q3 pin pq2
      rw [hP] at pin
      have g54 : ∀ x, 54 ≤ x → x ≠ 54 → x ≠ 64 → ¬ (69 ≤ x ∧ x ≤ 75) → s3 x = s x := fun x hx y1 y2 y3 => (q4.1 x y1 y2 y3).trans ((up_ne y2).trans (f54 x hx))
      have g27 : s3 54 27 = s 54 27 := (q4.2 27 (by decide) (by decide) (by decide) (by decide)).trans (by show s2 54 27 = _; rw [f54 54 (by decide)])
      have low : ∀ x, x < 54 → s3 x = s2 x := fun x hx => (q4.1 x (by omega) (by omega) (by omega)).trans (up_ne (by omega))
      have final : ∀ y : Int, y = (if P.1 then 1 else 0) → (some (vi y) = some (vi (if P.1 then 1 else 0)) ∧ ∃ s'' cs' hk' ru', PS h' (uf (up s3 65 (cps (s3 64) (s3 65) 0 (19 * 0) 19)) 54 27 (w32 (up s3 65 (cps (s3 64) (s3 65) 0 (19 * 0) 19) 54 27 + 1))) r = PS h' s'' r ∧ J h' s'' r cs' hk' ru') := by
        intro y hy
        rw [show up s3 65 (cps (s3 64) (s3 65) 0 (19 * 0) 19) 54 27 = s 54 27 from g27]
        refine fin_i hy (J_S ?_ ?_ ?_ hJ')
        · refine scE_tr (s' := s2) ?_ (scE_tr (scE_tr (scE_tr (scE_up (fun k x => by unfold pers psA psK at x; unfold eS; omega)) (scE_sc (sc_X q4))) (scE_up (fun k x => by unfold pers psA psK at x; unfold eS; omega))) (scE_uf (fun x => by unfold pers psA psK at x; unfold eS; omega)))
          rw [← hs2]
          exact scE_tr (scE_tr (scE_tr (scE_up (fun k x => by unfold pers psA psK at x; unfold eS; omega)) (scE_sc (sc_M (by decide) q2))) (scE_up (fun k x => by unfold pers psA psK at x; unfold eS; omega))) (scE_uf (fun x => by unfold pers psA psK at x; unfold eS; omega))
        · refine ⟨?_, ?_, ?_⟩
          · show metR (s3 24) (s3 69)
            rw [low 24 (by decide), ← hs2]
            show metR (s1 24) (s3 69)
            have m1 := q1.2.1
            rw [pq] at m1
            intro k k0 k1
            refine ⟨(m1 k k0 k1).1, fun l l0 l1 => ?_⟩
            rw [q3.2.1 _ (by omega) (by omega), pq2]
            exact (m1 k k0 k1).2 l l0 l1
          · show s3 22 4 = 0
            rw [low 22 (by decide), ← hs2]
            exact q1.2.2.2.1
          · show s3 54 29 = 0
            exact q3.2.2.2.1
        · refine ⟨?_, ?_, ?_⟩
          · show eq19 (s3 53) (cps (s3 64) (s3 65) 0 (19 * 0) 19)
            rw [low 53 (by decide), ← hs2]
            refine eq19_tr (g' := P.2.1) ?_ (eq19_sy (eq19_cpu ?_))
            · exact eq19_cps q1.1
            · rw [pin.2]
              exact q3.1
          · show rgN (cps (s3 64) (s3 65) 0 (19 * 0) 19)
            exact rgN_eq (eq19_cpu q3.1) q3.2.2.2.2
          · show s3 16 11 = w32 (s 54 27 + 1)
            rw [low 16 (by decide), ← hs2, ← a9.2.2]
            rfl
      rw [← pin.1]
      cases hp1 : P.1 with
      | false =>
        rw [hp1] at final
        rw [if_pos (show (if false = true then (1 : Int) else 0) = 0 from rfl)]
        exact final 0 rfl
      | true =>
        rw [hp1] at final
        rw [if_neg (show ¬ (if true = true then (1 : Int) else 0) = 0 by decide)]
        exact final 1 rfl
    cases hp1 : P.1 with
    | false =>
      rw [hp1] at fin
      rw [if_pos (show (if false = true then (1 : Int) else 0) = 0 from rfl)]
      exact fin
    | true =>
      rw [hp1] at fin
      rw [if_neg (show ¬ (if true = true then (1 : Int) else 0) = 0 by decide)]
      exact fin
  · rw [atI_q, if_pos rfl]
    refine aft_i hc ?_
    refine vX11_call (d := D + 11) ?_
    refine sX11_isCall (d := D + 10) (fun ok => absurd ok nok) (fun _ => ?_)
    rw [atI_q, if_pos rfl]
    exact fin_i rfl hJ
end CA
