/-! ROW -/
section RW
variable {G : az_G} {D : Nat} {xs : List Int} {x c : Int}
/-- the i-th five bits -/
abbrev r5 (x i : Int) : Int := lAnd (lShr x (w32 (5 * i))) 31
theorem st_row (hx0 : -9223372036854775808 ≤ x) (hx1 : x < 9223372036854775808) : stp xs (Inv xs) G (D + 2) 0 0 mX10_row mX11_row [vl x, vi c] := by
  refine stp_i (fun h s r cs hk ru hc hJ => ?_)
  obtain ⟨a1, a2, a3, a4, a5, a6, a7, a8, a9, a10, a11, a12, a13⟩ := hJ
  have hJ : J h s r cs hk ru := ⟨a1, a2, a3, a4, a5, a6, a7, a8, a9, a10, a11, a12, a13⟩
  have m30 := a10.2.1.2
  refine vX10_row (d := D + 1) ?_
  refine sX10_isWithin (fun y1 y2 => ?_) (fun y => ?_)
  rotate_left
  · rw [atI_q, if_pos rfl]
    refine aft_i hc ?_
    refine vX11_row (d := D + 1) ?_
    refine sX11_in (fun y1 y2 => absurd ⟨y1, y2⟩ y) (fun _ => ?_)
    rw [atI_q, if_pos rfl]
    exact fin_i rfl hJ
  rw [atI_q, if_neg (by decide)]
  obtain ⟨n, rfl⟩ : ∃ n : Nat, c = n := ⟨c.toNat, by omega⟩
  -- the reference's first loop, from where all was well
  have R1 : ∀ (g : Int → Int) (Q : Option az_V → az_H → Prop), ((∀ j : Int, 0 ≤ j → j < n → r5 x j < s 54 40) → (if s 54 45 = 20 then Q (some (vi (-3))) (PS h (up s 52 g) r) else pX11_row_70 G (D + 1) 54 x n 0 (PS h (uf (up s 52 g) 54 48 n) r) Q)) → ((∃ j : Int, 0 ≤ j ∧ j < n ∧ ¬ r5 x j < s 54 40) → Q (some (vi (-1))) (PS h (up s 52 g) r)) → ∀ (t : Nat) (i : Int), i = n - t → 0 ≤ i → (∀ j : Int, 0 ≤ j → j < i → r5 x j < s 54 40) → pX11_row_17 G (D + 1) 54 x n i (PS h (up s 52 g) r) Q := by
    intro g Q hok hbad t
    induction t with
    | zero =>
      intro i hi i0 hl
      have : i = n := by omega
      subst this
      refine vX11_row_17 ?_
      rw [if_pos (Int.le_refl _), ri_54_45, wi_54_48]
      exact hok hl
    | succ t ih =>
      intro i hi i0 hl
      refine vX11_row_17 ?_
      rw [if_neg (by omega), ri_54_40]
      show (if r5 x i < s 54 40 then _ else _)
      by_cases cl : r5 x i < s 54 40
      · rw [if_pos cl, show w32 (i + 1) = i + 1 by rw [w32_id] <;> omega]
        refine ih (i + 1) (by omega) (by omega) (fun j j0 j1 => ?_)
        by_cases ej : j = i
        · rw [ej]; exact cl
        · exact hl j j0 (by omega)
      · rw [if_neg cl]
        exact hbad ⟨i, i0, by omega, cl⟩
  have L : ∀ (t : Nat) (i : Int) (g : Int → Int), i = n - t → 0 ≤ i → (∀ j : Int, 0 ≤ j → j < i → g j = r5 x j ∧ r5 x j < s 54 40) → pX10_row_15 G (D + 1) 16 x n i (PS h (up s 52 g) r) (aft xs G (D + 2) mX11_row [vl x, vi n]) := by
    intro t
    induction t with
    | zero =>
      intro i g hi i0 hl
      have : i = n := by omega
      subst this
      refine vX10_row_15 ?_
      rw [if_pos (Int.le_refl _), ro_16_6, rc_48]
      refine vX6_isFull ?_
      rw [ri_48_3, ri_48_0, show up s 52 g 48 3 = s 48 3 from rfl, a11.1]
      have w2 := a11.2.1
      by_cases y3 : s 54 45 < 20
      · rw [if_pos y3, atI_q, if_pos rfl, ro_16_6, ro_16_8, rc_48]
        refine sX6_add48 (s := up s 52 g) (N := s 54 45) (d := D) (n := n) a11.1 w2.1 y3 (by omega) ?_
        rw [atI_q]
        refine aft_i hc ?_
        refine vX11_row (d := D + 1) ?_
        refine sX11_in (fun _ _ => ?_) (fun y => absurd ⟨y1, y2⟩ y)
        rw [atI_q, if_neg (by decide)]
        have e52 : up s 52 g 52 = g := up_at _ _ _
        generalize hs1 : uf (uf (up (up s 52 g) 49 (cps (up s 52 g 52) (up s 52 g 49) 0 (12 * s 54 45) n)) 50 (s 54 45) n) 48 3 (s 54 45 + 1) = s1
        have e54 : ∀ z, 54 ≤ z → s1 z = s z := fun z hz => by
          rw [← hs1, uf, up_ne (by omega), uf, up_ne (by omega), up_ne (by omega), up_ne (by omega)]
        -- the first loop changes nothing
        have R2 : ∀ (t : Nat) (i : Int), i = n - t → 0 ≤ i → pX11_row_17 G (D + 1) 54 x n i (PS h s1 r) (fun v2 h2 => v2 = some (vi (s 54 45)) ∧ ∃ s'' cs' hk' ru', h2 = PS h s'' r ∧ J h s'' r cs' hk' ru') := by
          intro t
          induction t with
          | zero =>
            intro i hi i0
            have : i = n := by omega
            subst this
            refine vX11_row_17 ?_
            rw [if_pos (Int.le_refl _), ri_54_45, e54 54 (by decide), if_neg (by omega), wi_54_48]
            have R3 : ∀ (t : Nat) (i : Int) (g2 : Int → Int), i = n - t → 0 ≤ i → (∀ j : Int, 0 ≤ j → j < i → g2 j = r5 x j) → pX11_row_70 G (D + 1) 54 x n i (PS h (up (uf s1 54 48 n) 82 g2) r) (fun v2 h2 => v2 = some (vi (s 54 45)) ∧ ∃ s'' cs' hk' ru', h2 = PS h s'' r ∧ J h s'' r cs' hk' ru') := by
              intro t
              induction t with
              | zero =>
                intro i g2 hi i0 hg2
                have : i = n := by omega
                subst this
                refine vX11_row_70 ?_
                rw [if_pos (Int.le_refl _), rc_54]
                refine sX11_keepRow (N := s 54 45) (by show s1 54 45 = _; rw [e54 54 (by decide)]) w2.1 y3 (n := n) rfl (by omega) ?_
                rw [atI_q]
                refine fin_i rfl (J_W ?_ ?_ ?_ hJ)
                · refine scE_tr (s' := s1) ?_ (scE_tr (scE_tr (scE_tr (scE_tr (scE_uf (fun x => by unfold pers psA psK at x; unfold eW; omega)) (scE_up (fun k x => by unfold pers psA psK at x; unfold eW; omega))) (scE_up (fun k x => by unfold pers psA psK at x; unfold eW; omega))) (scE_uf (fun x => by unfold pers psA psK at x; unfold eW; omega))) (scE_uf (fun x => by unfold pers psA psK at x; unfold eW; omega)))
                  rw [← hs1]
                  exact scE_tr (scE_tr (scE_tr (scE_up (fun k x => by unfold pers psA psK at x; unfold eW; omega)) (scE_up (fun k x => by unfold pers psA psK at x; unfold eW; omega))) (scE_uf (fun x => by unfold pers psA psK at x; unfold eW; omega))) (scE_uf (fun x => by unfold pers psA psK at x; unfold eW; omega))
                · refine jM_e ?_ ?_ ?_ ?_ a8
                  · show s1 24 = s 24
                    rw [← hs1]; rfl
                  · show s1 69 = s 69
                    exact e54 69 (by decide)
                  · show s1 22 4 = s 22 4
                    rw [← hs1]; rfl
                  · show s1 54 29 = s 54 29
                    rw [e54 54 (by decide)]
                · show jQ (s1 48 3) (s 54 45 + 1) (s1 54 40) 20 (s1 50) (ud (s1 80) (s 54 45) n) (s1 49) (cps g2 (s1 81) 0 (12 * s 54 45) n)
                  have k48 : s1 48 3 = s 54 45 + 1 := by rw [← hs1]; rfl
                  have k50 : s1 50 = ud (s 50) (s 54 45) n := by rw [← hs1]; rfl
                  have k49 : s1 49 = cps g (s 49) 0 (12 * s 54 45) n := by
                    rw [← hs1]
                    show cps (up s 52 g 52) (s 49) 0 (12 * s 54 45) n = _
                    rw [e52]
                  rw [k48, k50, k49, e54 80 (by decide), e54 81 (by decide), e54 54 (by decide)]
                  refine jQ_add ?_ y3 (by omega) (fun k k0 k1 => ?_)
                  · have w := a11
                    unfold jW at w
                    rw [a11.1] at w
                    exact w
                  · have hk1 := hl k k0 k1
                    rw [hk1.1, hg2 k k0 k1]
                    exact ⟨rfl, (row31 _).1, hk1.2⟩
              | succ t ih =>
                intro i g2 hi i0 hg2
                refine vX11_row_70 ?_
                have hrg := row31 (lShr x (w32 (5 * i)))
                rw [if_neg (by omega), ro_54_49, st_82, up_uf, show w32 (i + 1) = i + 1 by rw [w32_id] <;> omega, w32_id (x := lAnd (lShr x (w32 (5 * i))) 31) (by omega) (by omega)]
                refine ⟨by omega, by omega, ih (i + 1) _ (by omega) (by omega) (fun j j0 j1 => ?_)⟩
                rw [ud_ap]
                by_cases ej : j = i
                · rw [if_pos ej, ej]
                · rw [if_neg ej]; exact hg2 j j0 (by omega)
            have := R3 n 0 (uf s1 54 48 n 82) (by omega) (by omega) (fun j j0 j1 => absurd j1 (by omega))
            rw [up_same] at this
            exact this
          | succ t ih =>
            intro i hi i0
            refine vX11_row_17 ?_
            have hli := (hl i i0 (by omega)).2
            rw [if_neg (by omega), ri_54_40, e54 54 (by decide), if_pos hli, show w32 (i + 1) = i + 1 by rw [w32_id] <;> omega]
            exact ih (i + 1) (by omega) (by omega)
        exact R2 n 0 (by omega) (by omega)
      · rw [if_neg y3, atI_q, if_neg (by decide)]
        refine aft_i hc ?_
        refine vX11_row (d := D + 1) ?_
        refine sX11_in (fun _ _ => ?_) (fun y => absurd ⟨y1, y2⟩ y)
        rw [atI_q, if_neg (by decide)]
        refine R1 g _ (fun _ => ?_) (fun ⟨j, j0, j1, j2⟩ => absurd (hl j j0 j1).2 j2) n 0 (by omega) (by omega) (fun j j0 j1 => absurd j1 (by omega))
        rw [if_pos (by omega)]
        exact fin_i rfl (J_sc (sc_up (by unfold psA; omega) (by decide) (by decide)) (jM_e rfl rfl rfl rfl a8) hJ)
    | succ t ih =>
      intro i g hi i0 hl
      refine vX10_row_15 ?_
      rw [if_neg (by omega), ro_16_8, st_52, up_uf, row5 hx0 hx1 i0 (by omega)]
      refine ⟨by omega, by omega, ?_⟩
      rw [ro_16_8, ld_52, up_at, ud_at, ro_16_4, rc_35]
      refine ⟨by omega, by omega, ?_⟩
      refine vX7_choiceCount ?_
      rw [ri_35_4, atI_q, show up s 52 (ud g i (lAnd (lShr x (w32 (5 * i))) 31)) 35 4 = s 35 4 from rfl, a10.1]
      show (if r5 x i < s 54 40 then _ else _)
      by_cases cl : r5 x i < s 54 40
      · rw [if_pos cl, show w32 (i + 1) = i + 1 by rw [w32_id] <;> omega]
        refine ih (i + 1) _ (by omega) (by omega) (fun j j0 j1 => ?_)
        rw [ud_ap]
        by_cases ej : j = i
        · rw [if_pos ej, ej]; exact ⟨rfl, cl⟩
        · rw [if_neg ej]; exact hl j j0 (by omega)
      · rw [if_neg cl]
        refine aft_i hc ?_
        refine vX11_row (d := D + 1) ?_
        refine sX11_in (fun _ _ => ?_) (fun y => absurd ⟨y1, y2⟩ y)
        rw [atI_q, if_neg (by decide)]
        refine R1 _ _ (fun hall => absurd (hall i i0 (by omega)) cl) (fun _ => ?_) n 0 (by omega) (by omega) (fun j j0 j1 => absurd j1 (by omega))
        exact fin_i rfl (J_sc (sc_up (by unfold psA; omega) (by decide) (by decide)) (jM_e rfl rfl rfl rfl a8) hJ)
  have := L n 0 (s 52) (by omega) (by omega) (fun j j0 j1 => absurd j1 (by omega))
  rw [up_same] at this
  exact this
end RW
