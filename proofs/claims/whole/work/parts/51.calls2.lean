/-! ACTOR, HOLDS, CHOICE, FRESH -/
section CB
variable {h : az_H} {s : Nat → Int → Int} {r : Nat → Int → Option Nat} {G : az_G} {d D : Nat} {Q : Option az_V → az_H → Prop} {cs : Int → Option Cd} {hk : Int → Option (Int × Int)} {ru : Int → Cd} {xs : List Int} {hh : az_H} {a b c e : Int}
theorem sX9_setActor {q : Option Nat} (ha : 0 ≤ a ∧ a ≤ 3) (hb : ∀ c, q = some c → 89 ≤ c ∧ ∃ fs, h.1 c = cO 0 fs) (hq : Q none (PS h (uf s 25 a b) (uq r 26 a q))) : cz G mX9_setActor d 0 0 [vo 22, vi a, vi b, vr q] (PS h s r) Q := by
  refine vX9_setActor ?_
  rw [if_neg (by omega), if_neg (by omega), ro_22_2, st_25]
  refine ⟨by omega, by omega, ?_⟩
  rw [ro_22_3, sr_26]
  refine ⟨fun c hc => ?_, by omega, by omega, hq⟩
  obtain ⟨c9, fs, hfs⟩ := hb c hc
  exact ⟨fs, (PS_out c9).trans hfs⟩
theorem st_actor (hc4 : rg c) : stp xs (Inv xs) G (D + 4) 1 4 mX10_actor mX11_actor [vi a, vi b, vi c, vi e] := by
  refine stp_i (fun h s r cs hk ru hc hJ => ?_)
  obtain ⟨a1, a2, a3, a4, a5, a6, a7, a8, a9, a10, a11, a12, a13⟩ := hJ
  have hJ : J h s r cs hk ru := ⟨a1, a2, a3, a4, a5, a6, a7, a8, a9, a10, a11, a12, a13⟩
  have hbad : ¬ ((0 ≤ a ∧ a ≤ 3) ∧ (0 ≤ b ∧ b ≤ 1000000) ∧ (-1 ≤ c ∧ c ≤ 5) ∧ (0 ≤ c → -1000000 ≤ e ∧ e ≤ 1000000)) → aft xs G (D + 4) mX11_actor [vi a, vi b, vi c, vi e] (some (vi (-1))) (PS h s r) := by
    intro y
    refine aft_i hc ?_
    refine vX11_actor (d := D + 3) ?_
    refine sX11_in (fun y1 y2 => ?_) (fun _ => ?_)
    · rw [atI_q, if_neg (by decide)]
      refine sX11_in (fun y3 y4 => ?_) (fun _ => ?_)
      · rw [atI_q, if_neg (by decide)]
        refine sX11_in (fun y5 y6 => ?_) (fun _ => ?_)
        · rw [atI_q, if_neg (by decide)]
          by_cases y7 : c < 0
          · exact absurd ⟨⟨y1, y2⟩, ⟨y3, y4⟩, ⟨y5, y6⟩, fun z => absurd z (by omega)⟩ y
          · rw [if_neg y7]
            refine sX11_in (fun y8 y9 => absurd ⟨⟨y1, y2⟩, ⟨y3, y4⟩, ⟨y5, y6⟩, fun _ => ⟨y8, y9⟩⟩ y) (fun _ => ?_)
            rw [atI_q, if_pos rfl]
            exact fin_i rfl hJ
        · rw [atI_q, if_pos rfl]
          exact fin_i rfl hJ
      · rw [atI_q, if_pos rfl]
        exact fin_i rfl hJ
    · rw [atI_q, if_pos rfl]
      exact fin_i rfl hJ
  -- the rest, once the class has set the actor
  have main : ∀ (h' : az_H) (q : Option Nat), hx h h' → jH h' → (∀ i, i < 16 → h'.1 i = con0 xs i) → (0 ≤ a ∧ a ≤ 3) → (0 ≤ b ∧ b ≤ 1000000) → (c = -1 ∧ q = none ∨ (0 ≤ c ∧ c ≤ 5) ∧ (-1000000 ≤ e ∧ e ≤ 1000000) ∧ ∃ bb, q = some bb ∧ 89 ≤ bb ∧ h'.1 bb = cO 0 [vi a, vi c, vi e, vi 0]) → cz G mX9_setActor (D + 3) 0 0 [vo 22, vi a, vi b, vr q] (PS h' s r) (fun v h11 => atV v (rcv h11 16 10 (cz G mX10_showStart (D + 3) 0 0 [vo 16] h11 (fun v h12 => atV v (aft xs G (D + 4) mX11_actor [vi a, vi b, vi c, vi e] (some (vi 1)) h12))))) := by
    intro h' q x' j' hc' ha hb hq
    refine sX9_setActor ha (fun c0 hc0 => ?_) ?_
    · rcases hq with ⟨_, hq⟩ | ⟨_, _, bb, hq, b9, hbb⟩
      · rw [hq] at hc0; cases hc0
      · rw [hq] at hc0
        have := Option.some.inj hc0
        subst this
        exact ⟨b9, _, hbb⟩
    · rw [atV_q, rc_16]
      refine sX10_showStart (d := D + 1) (fun g g' hg => ?_)
      rw [atV_q]
      refine aft_i hc' ?_
      refine vX11_actor (d := D + 3) ?_
      refine sX11_in (fun _ _ => ?_) (fun y => absurd ha y)
      rw [atI_q, if_neg (by decide)]
      refine sX11_in (fun _ _ => ?_) (fun y => absurd hb y)
      rw [atI_q, if_neg (by decide)]
      refine sX11_in (fun _ _ => ?_) (fun y => absurd (by rcases hq with z | z <;> omega) y)
      rw [atI_q, if_neg (by decide)]
      have fin : pX11_actor_59 G (D + 3) 54 a b c e (PS h' (uf (up (up (uf s 25 a b) 29 g) 53 g') 16 11 0) (uq r 26 a q)) (fun v2 h2 => v2 = some (vi 1) ∧ ∃ s'' cs' hk' ru', h2 = PS h' s'' (uq r 26 a q) ∧ J h' s'' (uq r 26 a q) cs' hk' ru') := by
        refine vX11_actor_59 ?_
        rw [ro_54_24, st_66]
        refine ⟨by omega, by omega, ?_⟩
        rw [ro_54_25, st_67]
        refine ⟨by omega, by omega, ?_⟩
        rw [ro_54_26, st_68]
        refine ⟨by omega, by omega, ?_⟩
        rw [rc_54]
        refine sX11_begins (d := D + 1) (fun t t' ht => ?_)
        rw [atV_q]
        have hg1 : eq19 g' (stN (ud (s 25) a b)) := hg
        have ht1 : eq19 t' (stN (ud (s 66) a b)) := ht
        have hA' : ∀ i, 0 ≤ i → i < 4 → ud (s 25) a b i = ud (s 66) a b i ∧ 0 ≤ ud (s 66) a b i ∧ ud (s 66) a b i ≤ 1000000 := by
          intro i i0 i1
          rw [ud_ap, ud_ap]
          by_cases ei : i = a
          · rw [if_pos ei, if_pos ei]; exact ⟨rfl, hb.1, hb.2⟩
          · rw [if_neg ei, if_neg ei]; exact a7 i i0 i1
        refine ⟨rfl, _, cs, (fun i => if i = a then (if c < 0 then none else some (c, e)) else hk i), ru, rfl, j', ?_, ?_, jT_e rfl rfl rfl rfl a4, jL_e rfl (jL_x a1 x' a5), jR_e rfl rfl rfl rfl rfl rfl (jR_x a1 x' a6), ?_, jM_e rfl rfl rfl rfl a8, ⟨?_, ?_, rfl⟩, jC_e rfl rfl rfl rfl rfl rfl (jC_x a1 x' a10), jW_e rfl rfl rfl rfl rfl rfl rfl a11, jK_e rfl rfl rfl rfl rfl rfl rfl a12, jE_e rfl rfl a13⟩
        · have E := CEnv_x a1 x' a2
          refine ⟨E.1, fun i i0 i1 => ?_⟩
          show ((if i = a then (if c < 0 then none else some (c, e)) else hk i) = none → ud (r 26) a q i = none) ∧ ∀ q', (if i = a then (if c < 0 then none else some (c, e)) else hk i) = some q' → (0 ≤ q'.1 ∧ q'.1 < 6) ∧ ∃ b', ud (r 26) a q i = some b' ∧ 89 ≤ b' ∧ h'.1 b' = cO 0 [vi i, vi q'.1, vi q'.2, vi 0]
          rw [ud_ap]
          by_cases ei : i = a
          · subst ei
            simp only [if_true]
            rcases hq with ⟨c1, hq⟩ | ⟨c1, _, bb, hq, b9, hbb⟩
            · rw [if_pos (by omega), hq]
              exact ⟨fun _ => rfl, fun q' hq' => by cases hq'⟩
            · rw [if_neg (by omega), hq]
              refine ⟨(fun z => by cases z), fun q' hq' => ?_⟩
              have := Option.some.inj hq'
              subst this
              exact ⟨by omega, bb, rfl, b9, hbb⟩
          · simp only [if_neg ei]
            exact E.2 i i0 i1
        · have E : REnv (uf (up (up (uf (uf (uf (uf (up (up (uf s 25 a b) 29 g) 53 g') 16 11 0) 66 a b) 67 a c) 68 a e) 64 t) 65 t') 54 27 0) cs (fun i => if i = a then (if c < 0 then none else some (c, e)) else hk i) := by
            refine ⟨a3.1, fun i i0 i1 => ?_⟩
            show ((if i = a then (if c < 0 then none else some (c, e)) else hk i) = none → ud (s 67) a c i < 0) ∧ ∀ q', (if i = a then (if c < 0 then none else some (c, e)) else hk i) = some q' → (0 ≤ q'.1 ∧ q'.1 < 6) ∧ ud (s 67) a c i = q'.1 ∧ ud (s 68) a e i = q'.2
            rw [ud_ap, ud_ap]
            by_cases ei : i = a
            · subst ei
              simp only [if_true]
              by_cases c1 : c < 0
              · rw [if_pos c1]
                exact ⟨fun _ => c1, fun q' hq' => by cases hq'⟩
              · rw [if_neg c1]
                refine ⟨(fun z => by cases z), fun q' hq' => ?_⟩
                have := Option.some.inj hq'
                subst this
                refine ⟨?_, rfl, rfl⟩
                rcases hq with z | z <;> (show 0 ≤ c ∧ c < 6; omega)
            · simp only [if_neg ei]
              exact a3.2 i i0 i1
          exact E
        · exact hA'
        · show eq19 g' t'
          exact eq19_tr hg1 (eq19_tr (stN_eq (fun i i0 i1 => (hA' i i0 i1).1)) (eq19_sy ht1))
        · show rgN t'
          exact rgN_eq ht1 (stN_rg (fun i i0 i1 => (hA' i i0 i1).2))
      by_cases y7 : c < 0
      · rw [if_pos y7]; exact fin
      · rw [if_neg y7]
        refine sX11_in (fun _ _ => ?_) (fun y => absurd (by rcases hq with z | z <;> omega) y)
        rw [atI_q, if_neg (by decide)]
        exact fin
  refine vX10_actor (d := D + 3) ?_
  refine sX10_isWithin (fun y1 y2 => ?_) (fun y => ?_)
  · rw [atI_q, if_neg (by decide)]
    refine sX10_isWithin (fun y3 y4 => ?_) (fun y => ?_)
    · rw [atI_q, if_neg (by decide)]
      by_cases y5 : c = -1
      · rw [if_pos y5, ro_16_2, rc_22]
        exact main h none hx_rf a1 hc ⟨y1, y2⟩ ⟨y3, y4⟩ (Or.inl ⟨y5, rfl⟩)
      · rw [if_neg y5]
        refine sX10_isCall (d := D + 2) (fun ok => ?_) (fun nok => ?_)
        · rw [atI_q, if_neg (by decide), ro_16_2, nwO_q a1.1]
          refine sX0_new (d := D + 2) a1.1 ?_
          rw [atV_q, rc_22]
          exact main _ (some h.2) hx_psh (jH_psh a1) (cst_psh a1 hc) ⟨y1, y2⟩ ⟨y3, y4⟩ (Or.inr ⟨ok.2.1, ok.2.2.1, h.2, rfl, a1.1, hpsh_at⟩)
        · rw [atI_q, if_pos rfl]
          refine hbad (fun z => nok ⟨z.1, ?_, ?_, by omega⟩)
          · omega
          · exact z.2.2.2 (by omega)
    · rw [atI_q, if_pos rfl]; exact hbad (fun z => y z.2.1)
  · rw [atI_q, if_pos rfl]; exact hbad (fun z => y z.1)
/-- holds -/
theorem st_holds : stp xs (Inv xs) G (D + 5) 0 0 mX10_holds mX11_holds [vi a] := by
  refine stp_i (fun h s r cs hk ru hc hJ => ?_)
  obtain ⟨a1, a2, a3, a4, a5, a6, a7, a8, a9, a10, a11, a12, a13⟩ := hJ
  have hJ : J h s r cs hk ru := ⟨a1, a2, a3, a4, a5, a6, a7, a8, a9, a10, a11, a12, a13⟩
  refine vX10_holds (d := D + 4) ?_
  rw [rc_16]
  refine sX10_isRule (d := D + 3) (by rw [a6.1]; exact a6.2.1) (fun y1 y2 => ?_) (fun y => ?_)
  · rw [a6.1] at y2
    obtain ⟨wf, hrc, bb, lv, hr51, hcc⟩ := a6.2.2 a y1 y2
    have h8 := a6.2.1.2
    rw [atI_q, if_neg (by decide), ro_16_3, ro_16_9, rc_27]
    refine sX4_load53 (d := D + 3) ?_
    rw [atV_q, ro_16_3, ro_16_7, lr_51, hr51]
    refine ⟨y1, by omega, ?_⟩
    rw [rc_27]
    have hst0 : cSt 0 (up s 29 (cps (s 53) (s 29) 0 0 19)) (s 65, s 69, s 22 5) := ⟨eq19_cps a9.1, a8.1, rfl, a8.2.1, a9.2.1⟩
    refine sX4_keeps (d := D) a2 hcc wf hst0 (fun s1 q1 q2 => ?_)
    rw [atI_q]
    have e54 : ∀ x, 54 ≤ x → s1 x = s x := fun x hx => (q2 x (by omega) (by omega) (by omega) (by omega) (by omega) (by omega)).trans (up_ne (by omega))
    have fin : aft xs G (D + 5) mX11_holds [vi a] (some (vi (if keepsR (ru a) (s 65) then 1 else 0))) (PS h s1 r) := by
      refine aft_i hc ?_
      refine vX11_holds (d := D + 4) ?_
      rw [rc_54]
      refine sX11_isRule (d := D + 3) (by rw [e54 54 (by decide)]; exact a6.2.1) (fun _ _ => ?_) (fun y => absurd ⟨y1, by rw [e54 54 (by decide)]; exact y2⟩ y)
      rw [atI_q, if_neg (by decide), ro_54_23, rc_54]
      refine rLoad (N := 19) (by decide) (fun s1 i K => ld_65) (by decide) (by decide) (by decide) ?_
      rw [atV_q, rc_54]
      have hst2 : rSt 0 (up s1 64 (cps (s1 65) (s1 64) (19 * 0) 0 19)) (s 65, s 69, s 54 30) := by
        refine ⟨?_, fun i _ _ => ?_, ?_, ?_, a9.2.1⟩
        · show eq19 (cps (s1 65) (s1 64) (19 * 0) 0 19) (s 65)
          rw [e54 65 (by decide)]
          exact eq19_cpv eq19_rf
        · show s1 69 i = s 69 i
          rw [e54 69 (by decide)]
        · show s1 54 30 = _
          rw [e54 54 (by decide)]
        · show s1 54 29 = 0
          rw [e54 54 (by decide)]
          exact a8.2.2
      have hrc2 : rCode (up s1 64 (cps (s1 65) (s1 64) (19 * 0) 0 19)) (6 + a) (ru a) := by
        unfold rCode at *
        show s1 59 (6 + a) = _ ∧ ∀ j : Nat, j < (ru a).1 → s1 56 _ = _ ∧ s1 57 _ = _ ∧ (_ → s1 58 _ = _)
        rw [e54 59 (by decide), e54 56 (by decide), e54 57 (by decide), e54 58 (by decide)]
        exact hrc
      refine sX11_isBroken (d := D) ⟨y1, by omega⟩ hrc2 wf hst2 (fun s2 q3 q4 => ?_)
      rw [atI_q]
      have hm : jM s2 := by
        refine ⟨?_, ?_, q3.2.2.2.1⟩
        · have l24 : s2 24 = s1 24 := (q4.1 24 (by decide) (by decide) (by decide)).trans (up_ne (by decide))
          rw [l24]
          intro k k0 k1
          refine ⟨(q1.2.1 k k0 k1).1, fun l l0 l1 => ?_⟩
          rw [q3.2.1 _ (by omega) (by omega)]
          exact (q1.2.1 k k0 k1).2 l l0 l1
        · have l22 : s2 22 = s1 22 := (q4.1 22 (by decide) (by decide) (by decide)).trans (up_ne (by decide))
          rw [l22]
          exact q1.2.2.2.1
      have hJ2 : J h s2 r cs hk ru := J_sc (sc_tr (sc_tr (sc_tr (sc_up (by unfold psA; omega) (by decide) (by decide)) (sc_M (by decide) q2)) (sc_up (by unfold psA; omega) (by decide) (by decide))) (sc_X q4)) hm hJ
      cases hp1 : keepsR (ru a) (s 65) with
      | false =>
        rw [if_neg (show ¬ (if false = true then (0 : Int) else 1) = 0 by decide)]
        exact fin_i rfl hJ2
      | true =>
        rw [if_pos (show (if true = true then (0 : Int) else 1) = 0 from rfl)]
        exact fin_i rfl hJ2
    show (if (if keepsR (ru a) (s 65) = true then (1 : Int) else 0) = 0 then _ else _)
    cases hp1 : keepsR (ru a) (s 65) with
    | false =>
      rw [hp1] at fin
      rw [if_pos (show (if false = true then (1 : Int) else 0) = 0 from rfl)]
      exact fin
    | true =>
      rw [hp1] at fin
      rw [if_neg (show ¬ (if true = true then (1 : Int) else 0) = 0 by decide)]
      exact fin
  · rw [atI_q, if_pos rfl]
    refine aft_i hc ?_
    refine vX11_holds (d := D + 4) ?_
    rw [rc_54]
    rw [a6.1] at y
    refine sX11_isRule (d := D + 3) a6.2.1 (fun y1 y2 => absurd ⟨y1, y2⟩ y) (fun _ => ?_)
    rw [atI_q, if_pos rfl]
    exact fin_i rfl hJ
/-- choice -/
theorem st_choice : stp xs (Inv xs) G (D + 2) 1 4 mX10_choice mX11_choice [vi a, vi b, vi c, vi e] := by
  refine stp_i (fun h s r cs hk ru hc hJ => ?_)
  obtain ⟨a1, a2, a3, a4, a5, a6, a7, a8, a9, a10, a11, a12, a13⟩ := hJ
  have hJ : J h s r cs hk ru := ⟨a1, a2, a3, a4, a5, a6, a7, a8, a9, a10, a11, a12, a13⟩
  obtain ⟨c1, c2, c3⟩ := a10
  refine vX10_choice (d := D + 1) ?_
  refine sX10_isCall (d := D) (fun ok => ?_) (fun nok => ?_)
  · rw [atI_q, if_neg (by decide), ro_16_4, rc_35]
    refine vX7_choiceCount ?_
    rw [ri_35_4, atI_q, c1]
    by_cases y : s 54 40 < 30
    · rw [if_pos y, ro_16_4, nwO_q a1.1]
      refine sX0_new (d := D) a1.1 ?_
      rw [atV_q, rc_35]
      refine vX7_addChoice ?_
      generalize hh' : hpsh h (cO 0 [vi a, vi b, vi c, vi e]) = h'
      have x' : hx h h' := by rw [← hh']; exact hx_psh
      have j' : jH h' := by rw [← hh']; exact jH_psh a1
      have hc' : ∀ i, i < 16 → h'.1 i = con0 xs i := by rw [← hh']; exact cst_psh a1 hc
      have hat : h'.1 h.2 = cO 0 [vi a, vi b, vi c, vi e] := by rw [← hh']; exact hpsh_at
      rw [ri_35_4, c1, if_neg (by omega), ro_35_2, ri_35_4, c1, sr_42]
      refine ⟨fun c0 hc0 => ?_, by omega, y, ?_⟩
      · have := Option.some.inj hc0
        subst this
        exact ⟨_, (PS_out a1.1).trans hat⟩
      rw [ri_35_4, c1, w32_id (by omega) (by omega), wi_35_4, atV_q, ro_16_4, rc_35]
      refine vX7_choiceCount ?_
      rw [ri_35_4, atI_q, show uf s 35 4 (s 54 40 + 1) 35 4 = s 54 40 + 1 from rfl, w32_id (by omega) (by omega)]
      refine aft_i hc' ?_
      refine vX11_choice (d := D + 1) ?_
      refine sX11_isCall (d := D) (fun _ => ?_) (fun nok => absurd ok nok)
      rw [atI_q, if_neg (by decide), ri_54_40, show uf s 35 4 (s 54 40 + 1) 54 40 = s 54 40 from rfl, if_neg (by omega), ro_54_41, ri_54_40, st_76]
      refine ⟨c2.1, y, ?_⟩
      rw [ro_54_42, ri_54_40, st_77]
      refine ⟨c2.1, y, ?_⟩
      rw [ro_54_43, ri_54_40, st_78]
      refine ⟨c2.1, y, ?_⟩
      rw [ro_54_44, ri_54_40, st_79]
      refine ⟨c2.1, y, ?_⟩
      rw [ri_54_40, wi_54_40, ri_54_40]
      show some (vi (w32 (w32 (s 54 40 + 1) - 1))) = some (vi (s 54 40 + 1 - 1)) ∧ _
      rw [w32_id (x := s 54 40 + 1) (by omega) (by omega), w32_id (by omega) (by omega)]
      refine ⟨rfl, _, cs, hk, ru, rfl, j', CEnv_x a1 x' a2, REnv_e rfl rfl rfl rfl rfl rfl rfl a3, jT_e rfl rfl rfl rfl a4, jL_e rfl (jL_x a1 x' a5), jR_e rfl rfl rfl rfl rfl rfl (jR_x a1 x' a6), jA_e rfl rfl a7, jM_e rfl rfl rfl rfl a8, jS_e rfl rfl rfl rfl a9, ⟨?_, ?_, fun i i0 i1 => ?_⟩, ?_, ?_, jE_e rfl rfl a13⟩
      · show s 54 40 + 1 = w32 (s 54 40 + 1)
        rw [w32_id (by omega) (by omega)]
      · show 0 ≤ w32 (s 54 40 + 1) ∧ w32 (s 54 40 + 1) ≤ 30
        rw [w32_id (by omega) (by omega)]
        omega
      · have i1' : i < w32 (s 54 40 + 1) := i1
        rw [w32_id (by omega) (by omega)] at i1'
        show (0 ≤ ud (s 76) (s 54 40) a i ∧ ud (s 76) (s 54 40) a i < 4) ∧ (0 ≤ ud (s 77) (s 54 40) b i ∧ ud (s 77) (s 54 40) b i < 6) ∧ ∃ bb, ud (r 42) (s 54 40) (some h.2) i = some bb ∧ 89 ≤ bb ∧ h'.1 bb = cO 0 [vi (ud (s 76) (s 54 40) a i), vi (ud (s 77) (s 54 40) b i), vi (ud (s 78) (s 54 40) c i), vi (ud (s 79) (s 54 40) e i)]
        simp only [ud_ap]
        by_cases ei : i = s 54 40
        · simp only [if_pos ei]
          exact ⟨by omega, by omega, h.2, rfl, a1.1, hat⟩
        · simp only [if_neg ei]
          have := jC_x a1 x' ⟨c1, c2, c3⟩
          exact this.2.2 i i0 (by omega)
      · obtain ⟨w1, w2, w3⟩ := a11
        refine ⟨w1, w2, fun i i0 i1 => ?_⟩
        obtain ⟨w4, w5, w6⟩ := w3 i i0 i1
        refine ⟨w4, w5, fun j j0 j1 => ?_⟩
        have := w6 j j0 j1
        refine ⟨this.1, this.2.1, ?_⟩
        show s 81 (12 * i + j) < w32 (s 54 40 + 1)
        rw [w32_id (by omega) (by omega)]
        omega
      · obtain ⟨w1, w2, w3⟩ := a12
        refine ⟨w1, w2, fun i i0 i1 => ?_⟩
        obtain ⟨w4, w5, w6⟩ := w3 i i0 i1
        refine ⟨w4, w5, fun j j0 j1 => ?_⟩
        have := w6 j j0 j1
        refine ⟨this.1, this.2.1, ?_⟩
        show s 84 (12 * i + j) < w32 (s 54 40 + 1)
        rw [w32_id (by omega) (by omega)]
        omega
    · rw [if_neg y]
      refine aft_i hc ?_
      refine vX11_choice (d := D + 1) ?_
      refine sX11_isCall (d := D) (fun _ => ?_) (fun nok => absurd ok nok)
      rw [atI_q, if_neg (by decide), ri_54_40, if_pos (by omega)]
      exact fin_i rfl hJ
  · rw [atI_q, if_pos rfl]
    refine aft_i hc ?_
    refine vX11_choice (d := D + 1) ?_
    refine sX11_isCall (d := D) (fun ok => absurd ok nok) (fun _ => ?_)
    rw [atI_q, if_pos rfl]
    exact fin_i rfl hJ
/-- fresh -/
theorem st_fresh : stp xs (Inv xs) G (D + 4) 0 0 mX10_fresh mX11_fresh [] := by
  refine stp_i (fun h s r cs hk ru hc hJ => ?_)
  obtain ⟨a1, a2, a3, a4, a5, a6, a7, a8, a9, a10, a11, a12, a13⟩ := hJ
  refine vX10_fresh (d := D + 3) ?_
  rw [ro_16_4, rc_35]
  refine vX7_choiceCount ?_
  rw [ri_35_4, atI_q, ro_16_4, rc_35]
  refine vX7_dropChoices ?_
  rw [wi_35_4, atV_q, ro_16_6, rc_48]
  refine vX6_clear ?_
  rw [wi_48_3, atV_q, ro_16_5, rc_44]
  refine vX2_forget (d := D + 2) ?_
  rw [ro_44_2, rc_45]
  refine vX6_clear ?_
  rw [wi_45_3, atV_q, ro_44_1, rc_22]
  refine vX9_unmeetAll (d := D + 1) ?_
  rw [ro_22_1]
  refine jFill (N := 6) (by decide) (by decide) (fun s1 K => al_24) (fun s1 i x K => st_24) ?_
  rw [atV_q, atV_q, atV_q]
  generalize hs1 : up (uf (uf (uf s 35 4 0) 48 3 0) 45 3 0) 24 (cps (fun _ => 0) (uf (uf (uf s 35 4 0) 48 3 0) 45 3 0 24) 0 0 6) = s1
  have e54 : ∀ x, 54 ≤ x → s1 x = s x := fun x hx => by
    rw [← hs1, up_ne (by omega), uf, up_ne (by omega), uf, up_ne (by omega), uf, up_ne (by omega)]
  refine aft_i hc ?_
  refine vX11_fresh ?_
  rw [ri_54_40, e54 54 (by decide), wi_54_40, wi_54_45, wi_54_50]
  have L : ∀ (t : Nat) (i : Int) (g : Int → Int), i = 144 - t → 0 ≤ i → (∀ k, 0 ≤ k → k < i → g k = 0) → pX11_fresh_22 G (D + 4) 54 (s 54 40) i (PS h (up (uf (uf (uf s1 54 40 0) 54 45 0) 54 50 0) 69 g) r) (fun v2 h2 => v2 = some (vi (s 35 4)) ∧ ∃ s'' cs' hk' ru', h2 = PS h s'' r ∧ J h s'' r cs' hk' ru') := by
    intro t
    induction t with
    | zero =>
      intro i g hi _ hg
      have : i = 144 := by omega
      subst this
      refine vX11_fresh_22 ?_
      rw [if_pos (by decide)]
      refine ⟨by rw [a10.1], _, cs, hk, ru, rfl, a1, a2, REnv_e (e54 56 (by decide)) (e54 57 (by decide)) (e54 58 (by decide)) (e54 59 (by decide)) (e54 61 (by decide)) (e54 67 (by decide)) (e54 68 (by decide)) a3, jT_e ?_ ?_ ?_ (e54 55 (by decide)) a4, jL_e (e54 60 (by decide)) a5, jR_e ?_ ?_ (e54 56 (by decide)) (e54 57 (by decide)) (e54 58 (by decide)) (e54 59 (by decide)) a6, jA_e ?_ (e54 66 (by decide)) a7, ⟨?_, ?_, ?_⟩, jS_e ?_ (e54 65 (by decide)) ?_ ?_ a9, ⟨?_, ⟨Int.le_refl _, show (0 : Int) ≤ 30 by decide⟩, fun i i0 i1 => ?_⟩, ⟨?_, ⟨Int.le_refl _, show (0 : Int) ≤ 20 by decide⟩, fun i i0 i1 => ?_⟩, ⟨?_, ⟨Int.le_refl _, show (0 : Int) ≤ 8 by decide⟩, fun i i0 i1 => ?_⟩, jE_e ?_ ?_ a13⟩
      · rw [← hs1]; rfl
      · show s1 54 1 = _; rw [e54 54 (by decide)]
      · rw [← hs1]; rfl
      · rw [← hs1]; rfl
      · show s1 54 13 = _; rw [e54 54 (by decide)]
      · rw [← hs1]; rfl
      · show metR (s1 24) g
        rw [← hs1]
        show metR (cps (fun _ => 0) (s 24) 0 0 6) g
        intro k k0 k1
        have e0 : cps (fun _ => 0) (s 24) 0 0 6 k = 0 := by unfold cps; rw [if_pos (by omega)]
        rw [e0]
        refine ⟨by omega, fun l l0 l1 => ?_⟩
        rw [hg _ (by omega) (by omega)]
        simp
      · rw [← hs1]; exact a8.2.1
      · show s1 54 29 = 0; rw [e54 54 (by decide)]; exact a8.2.2
      · rw [← hs1]; rfl
      · rw [← hs1]; rfl
      · show s1 54 27 = _; rw [e54 54 (by decide)]
      · rw [← hs1]; rfl
      · exact absurd i1 (by show ¬ i < 0; omega)
      · rw [← hs1]; rfl
      · exact absurd i1 (by show ¬ i < 0; omega)
      · rw [← hs1]; rfl
      · exact absurd i1 (by show ¬ i < 0; omega)
      · rw [← hs1]; rfl
      · show s1 54 53 = _; rw [e54 54 (by decide)]
    | succ t ih =>
      intro i g hi i0 hg
      refine vX11_fresh_22 ?_
      rw [if_neg (by omega), ro_54_28, st_69, up_uf, w32_id (x := i + 1) (by omega) (by omega)]
      refine ⟨by omega, by omega, ih (i + 1) _ (by omega) (by omega) (fun k k0 k1 => ?_)⟩
      rw [ud_ap]
      by_cases ek : k = i
      · rw [if_pos ek]
      · rw [if_neg ek]; exact hg k k0 (by omega)
  have := L 144 0 (uf (uf (uf s1 54 40 0) 54 45 0) 54 50 0 69) (by omega) (by omega) (fun k k0 k1 => absurd k1 (by omega))
  rw [up_same] at this
  exact this
end CB
