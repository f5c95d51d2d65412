/-! EVERY -/
theorem scE_V {s s' : Nat → Int → Int} (hf : frV s s') : scE eV s s' := by
  intro a k x y
  by_cases c : a = 35
  · subst c
    exact hf.2 k (by unfold eV at y; omega)
  · rw [hf.1 a (by unfold pers psA psK at x; omega) (by unfold pers psA psK at x; omega) (by unfold pers psA psK at x; omega) (by unfold pers psA psK at x; omega) (by unfold pers psA psK at x; omega) (by unfold pers psA psK at x; omega)]
theorem scE_W {s s' : Nat → Int → Int} (hf : frW s s') : scE eV s s' := by
  intro a k x y
  by_cases c : a = 54
  · subst c
    exact hf.2 k (by unfold pers psA psK at x; omega) (by unfold pers psA psK at x; omega) (by unfold pers psA psK at x; omega) (by unfold pers psA psK at x; omega) (by unfold pers psA psK at x; omega) (by unfold pers psA psK at x; unfold eV at y; omega)
  · rw [hf.1 a c (by unfold pers psA psK at x; omega) (by unfold pers psA psK at x; omega) (by unfold pers psA psK at x; omega) (by unfold pers psA psK at x; omega)]
section SV
variable {G : az_G} {D : Nat} {xs : List Int} {a b : Int}
theorem st_every : stp xs (Inv xs) G (D + 14) 0 0 mX10_every mX11_every [vi a, vi b] := by
  refine stp_i (fun h s r cs hk ru hc hJ => ?_)
  obtain ⟨a1, a2, a3, a4, a5, a6, a7, a8, a9, a10, a11, a12, a13⟩ := hJ
  have hJ : J h s r cs hk ru := ⟨a1, a2, a3, a4, a5, a6, a7, a8, a9, a10, a11, a12, a13⟩
  have h20 := a11.2.1
  have h8 := a6.2.1
  have m30 := a10.2.1
  have hbad : ¬ ((0 ≤ a ∧ a < s 54 13) ∧ (1 ≤ b ∧ b ≤ 12)) → aft xs G (D + 14) mX11_every [vi a, vi b] (some (vi (-1))) (PS h s r) := by
    intro y
    refine aft_i hc ?_
    refine vX11_every (d := D + 13) ?_
    rw [rc_54]
    refine sX11_isRule a6.2.1 (fun y1 y2 => ?_) (fun _ => ?_)
    · rw [atI_q, if_neg (by decide)]
      refine sX11_in (fun y3 y4 => absurd ⟨⟨y1, y2⟩, y3, y4⟩ y) (fun _ => ?_)
      rw [atI_q, if_pos rfl]
      exact fin_i rfl hJ
    · rw [atI_q, if_pos rfl]
      exact fin_i rfl hJ
  refine vX10_every (d := D + 13) ?_
  rw [rc_16]
  refine sX10_isRule (by rw [a6.1]; exact a6.2.1) (fun y1 y2 => ?_) (fun y => ?_)
  rotate_left
  · rw [atI_q, if_pos rfl]; rw [a6.1] at y; exact hbad (fun z => y z.1)
  rw [a6.1] at y2
  rw [atI_q, if_neg (by decide)]
  refine sX10_isWithin (fun y3 y4 => ?_) (fun y => ?_)
  rotate_left
  · rw [atI_q, if_pos rfl]; exact hbad (fun z => y z.2)
  rw [atI_q, if_neg (by decide), ro_16_6, rc_48]
  refine vX6_isFull ?_
  rw [ri_48_3, ri_48_0, a11.1]
  by_cases y6 : s 54 45 < 20
  rotate_left
  · rw [if_neg y6, atI_q, if_neg (by decide)]
    refine aft_i hc ?_
    refine vX11_every (d := D + 13) ?_
    rw [rc_54]
    refine sX11_isRule a6.2.1 (fun _ _ => ?_) (fun y => absurd ⟨y1, y2⟩ y)
    rw [atI_q, if_neg (by decide)]
    refine sX11_in (fun _ _ => ?_) (fun y => absurd ⟨y3, y4⟩ y)
    rw [atI_q, if_neg (by decide), ri_54_45, if_pos (by omega)]
    exact fin_i rfl hJ
  obtain ⟨_, _, bb, lv, hr51, hcc⟩ := a6.2.2 a y1 y2
  rw [if_pos y6, atI_q, if_pos rfl, ro_16_4, ro_16_7, lr_51, hr51, ro_16_8, rc_35]
  refine ⟨y1, by omega, ?_⟩
  have hKC := KC_J hJ
  have hKR := KR_J hJ
  refine cSeek (d := D + 1) (Mm := s 69) hKC m30.1 y1 y2 hr51 ⟨y3, y4⟩ a8.1 a8.2.1 (fun s1 E hE f1 M1 w1 v1 hok => ?_)
  have e54 : ∀ s' : Nat → Int → Int, frV s s' → ∀ x, 54 ≤ x → s' x = s x := fun s' hf x hx => hf.1 x (by omega) (by omega) (by omega) (by omega) (by omega) (by omega)
  -- the reference
  have RF : ∀ (s' : Nat → Int → Int) (Q : Option az_V → az_H → Prop), (∀ x, 54 ≤ x → s' x = s x) → (∀ s3 : Nat → Int → Int, frW s' s3 → (∀ i, 0 ≤ i → i < 144 → s3 69 i = s 69 i) → s3 54 29 = 0 → (E.1 ≠ 1 → rR s3 E.2.2.2) → (E.1 = 1 → s3 54 53 = 401) → (E.1 = 0 → Q (some (vi 1)) (PS h s3 r)) ∧ (E.1 = 1 → Q (some (vi (-2))) (PS h s3 r)) ∧ (E.1 = 2 → (0 ≤ E.2.1 ∧ E.2.1 < E.2.2.2.1) → (0 ≤ E.2.2.1 ∧ E.2.2.1 < s 54 40) → rcv (PS h s3 r) 54 11 (cz G mX11_rowTo (D + 13) 0 0 [vo 54, vi E.2.1, vi E.2.2.1] (PS h s3 r) (fun v h30 => atI v (fun r31 => Q (some (vi (w32 (((-10)) - r31)))) h30))))) → cz G mX11_every (D + 14) 0 0 [vo 54, vi a, vi b] (PS h s' r) Q := by
    intro s' Q e' hK
    have hKR' : KR s' cs hk ru (chS s) (s 54 40) (s 54 13) (s 66) := KR_e (e' 56 (by decide)) (e' 57 (by decide)) (e' 58 (by decide)) (e' 59 (by decide)) (e' 61 (by decide)) (e' 67 (by decide)) (e' 68 (by decide)) (by rw [e' 54 (by decide)]) (e' 76 (by decide)) (e' 77 (by decide)) (e' 78 (by decide)) (e' 79 (by decide)) (by rw [e' 54 (by decide)]) (e' 66 (by decide)) hKR
    refine vX11_every (d := D + 13) ?_
    rw [rc_54]
    refine sX11_isRule (by rw [e' 54 (by decide)]; exact a6.2.1) (fun _ _ => ?_) (fun y => absurd (by rw [e' 54 (by decide)]; exact ⟨y1, y2⟩) y)
    rw [atI_q, if_neg (by decide)]
    refine sX11_in (fun _ _ => ?_) (fun y => absurd ⟨y3, y4⟩ y)
    rw [atI_q, if_neg (by decide), ri_54_45, if_neg (by rw [e' 54 (by decide)]; omega), rc_54]
    refine sX11_toStart (d := D + 12) (fun g hg => ?_)
    rw [atV_q, ro_54_54, rc_54]
    refine rSave (a := 85) (N := 7619) (by decide) (fun s1 i x K => st_85) (by decide) (by decide) (by decide) ?_
    rw [atV_q, ro_54_57, st_88]
    refine ⟨by decide, by decide, ?_⟩
    rw [wi_54_53]
    refine rEvO (d := D + 8) (s0 := s') (Mm := s 69) hKR' m30.1 y1 y2 ⟨y3, y4⟩ 400 0 _ (bS0 (s 66)) (by decide) (by decide) (frW_tr (frW_tr (frW_tr (frW_up (by decide)) (frW_up (by decide))) (frW_uf (by decide))) (frW_54 (by decide))) ⟨rfl, fun k k0 k1 => ?_⟩ (okB_0 y3 (fun i i0 i1 => (a7 i i0 i1).2)) (fun i _ _ => ?_) ?_ (fun s3 E' hE' q1 q2 q3 q4 q5 q6 => ?_)
    · have k1' : k < 1 := k1
      have : k = 0 := by omega
      subst this
      refine ⟨fun i i0 i1 => ?_, rfl, fun z => absurd z (by decide)⟩
      show cps g (s' 85) 0 (19 * 0) 19 (19 * 0 + i) = stN (s 66) i
      unfold cps
      rw [if_pos (by omega), show 0 + (19 * 0 + i - 19 * 0) = i by omega, ← e' 66 (by decide)]
      exact hg i i0 i1
    · show s' 69 i = s 69 i
      rw [e' 69 (by decide)]
    · show s' 54 29 = 0
      rw [e' 54 (by decide)]
      exact a8.2.2
    have eE : E' = E := hE'.trans hE.symm
    subst eE
    exact hK s3 q1 q2 q3 q4 q5
  have fin : ∀ s3 : Nat → Int → Int, frW s1 s3 → (∀ i, 0 ≤ i → i < 144 → s3 69 i = s 69 i) → s3 54 29 = 0 → s1 35 5 = s3 54 53 → J h s3 r cs hk ru := by
    intro s3 q1 q2 q3 q4
    have o : ∀ x, x ≤ 53 → s3 x = s1 x := fun x hx => q1.1 x (by omega) (by omega) (by omega) (by omega) (by omega)
    have z : ∀ k, k = 40 ∨ k = 45 → s3 54 k = s 54 k := fun k hk => (q1.2 k (by omega) (by omega) (by omega) (by omega) (by omega) (by omega)).trans (by rw [e54 s1 f1 54 (by decide)])
    have lo : ∀ x, 48 ≤ x → x ≤ 50 → s3 x = s x := fun x x0 x1 => (o x (by omega)).trans (f1.1 x (by omega) (by omega) (by omega) (by omega) (by omega) (by omega))
    have hi : ∀ x, 80 ≤ x → x ≤ 81 → s3 x = s x := fun x x0 x1 => (q1.1 x (by omega) (by omega) (by omega) (by omega) (by omega)).trans (e54 s1 f1 x (by omega))
    refine J_V (scE_tr (scE_V f1) (scE_W q1)) ?_ ?_ ?_ hJ
    · exact jM_of (s := s) (M := s 69) (Z := (s 69, s 69, 0)) (by rw [o 24 (by decide)]; exact M1) (fun i i0 i1 => (q2 i i0 i1).symm) (by rw [o 22 (by decide)]; exact w1) q3
    · exact jW_e (by rw [lo 48 (by decide) (by decide)]) (z 45 (Or.inr rfl)) (z 40 (Or.inl rfl)) (lo 50 (by decide) (by decide)) (hi 80 (by decide) (by decide)) (lo 49 (by decide) (by decide)) (hi 81 (by decide) (by decide)) a11
    · show s3 35 5 = s3 54 53
      rw [o 35 (by decide)]
      exact q4
  refine ⟨fun e => ?_, fun e => ?_, fun e e0 e1 L _ hL => ?_⟩
  · rw [e, if_neg (by decide)] at v1
    rw [atI_q, if_neg (by decide), if_pos rfl]
    refine aft_i hc (RF s1 _ (e54 s1 f1) (fun s3 q1 q2 q3 q4 q5 => ⟨fun _ => ?_, fun e' => ?_, fun e' => ?_⟩))
    · exact fin_i rfl (fin s3 q1 q2 q3 (v1.trans (q4 (by omega)).1.symm))
    · omega
    · omega
  · rw [e, if_pos rfl] at v1
    rw [atI_q, if_pos rfl]
    refine aft_i hc (RF s1 _ (e54 s1 f1) (fun s3 q1 q2 q3 q4 q5 => ⟨fun e' => ?_, fun _ => ?_, fun e' => ?_⟩))
    · omega
    · exact fin_i rfl (fin s3 q1 q2 q3 (v1.trans (q5 e).symm))
    · omega
  · have hF := (hok.2 E.2.1 e0.1 e0.2).2.1
    have L12 : L + 1 ≤ 12 := by omega
    rw [e, if_neg (by decide)] at v1
    rw [atI_q, if_neg (by omega), if_neg (by omega), ro_16_6, ro_16_8, rc_48, show (L : Int) + 1 = ((L + 1 : Nat) : Int) by omega]
    have m48 : s1 48 = s 48 := f1.1 48 (by decide) (by decide) (by decide) (by decide) (by decide) (by decide)
    have m49 : s1 49 = s 49 := f1.1 49 (by decide) (by decide) (by decide) (by decide) (by decide) (by decide)
    have m50 : s1 50 = s 50 := f1.1 50 (by decide) (by decide) (by decide) (by decide) (by decide) (by decide)
    generalize hg1 : rwL E.2.2.2.2.2.1 E.2.2.2.2.2.2.1 L E.2.1 (ud (s1 52) L E.2.2.1) = g1
    refine sX6_add48 (d := D + 12) (N := s 54 45) (by show s1 48 3 = _; rw [m48]; exact a11.1) h20.1 y6 L12 ?_
    rw [atI_q]
    generalize hs5 : uf (uf (up (up s1 52 g1) 49 (cps (up s1 52 g1 52) (up s1 52 g1 49) 0 (12 * s 54 45) ((L + 1 : Nat) : Int))) 50 (s 54 45) ((L + 1 : Nat) : Int)) 48 3 (s 54 45 + 1) = s5
    have m5 : ∀ y, 54 ≤ y → s5 y = s y := fun y hy => by
      rw [← hs5, uf, up_ne (by omega), uf, up_ne (by omega), up_ne (by omega), up_ne (by omega)]
      exact e54 s1 f1 y hy
    refine aft_i hc (RF s5 _ m5 (fun s3 q1 q2 q3 q4 q5 => ⟨fun e' => ?_, fun e' => ?_, fun _ _ _ => ?_⟩))
    · omega
    · omega
    rw [rc_54]
    have z : ∀ k, k ≠ 30 → k ≠ 32 → k ≠ 33 → k ≠ 34 → k ≠ 48 → k ≠ 53 → s3 54 k = s 54 k := fun k x1 x2 x3 x4 x5 x6 => (q1.2 k x1 x2 x3 x4 x5 x6).trans (by rw [m5 54 (by decide)])
    refine sX11_rowTo (d := D + 12) (N := s 54 45) (L := L) hok (q4 (by omega)) y4 e0.1 e0.2 hL (z 45 (by decide) (by decide) (by decide) (by decide) (by decide) (by decide)) h20.1 y6 (fun s7 hs7 => ?_)
    rw [atI_q]
    generalize hg2 : rwL E.2.2.2.2.2.1 E.2.2.2.2.2.2.1 L E.2.1 (ud (s3 82) L E.2.2.1) = g2 at hs7
    have o : ∀ x, x ≤ 53 → s3 x = s5 x := fun x hx => q1.1 x (by omega) (by omega) (by omega) (by omega) (by omega)
    have o7 : ∀ x, x ≠ 54 → x ≠ 82 → s7 x = s3 x := fun x x1 x2 => by rw [hs7, up_ne x2, uf, up_ne x1]
    have k7 : ∀ k, k ≠ 48 → s7 54 k = s3 54 k := fun k hk => by rw [hs7, up_ne (by decide)]; exact ud_ne hk
    have z82 : s7 82 = g2 := by rw [hs7, up_at]
    have lo5 : ∀ x, x ≠ 48 → x ≠ 49 → x ≠ 50 → x ≠ 52 → s5 x = s1 x := fun x x1 x2 x3 x4 => by rw [← hs5, uf, up_ne x1, uf, up_ne x3, up_ne x2, up_ne x4]
    refine fin_i rfl (J_V ?_ ?_ ?_ ?_ hJ)
    · refine scE_tr (s' := s5) ?_ (scE_tr (s' := s3) (scE_W q1) ?_)
      · rw [← hs5]
        exact scE_tr (scE_V f1) (scE_tr (scE_tr (scE_tr (scE_up (fun k x => by unfold pers psA psK at x; unfold eV; omega)) (scE_up (fun k x => by unfold pers psA psK at x; unfold eV; omega))) (scE_uf (fun x => by unfold pers psA psK at x; unfold eV; omega))) (scE_uf (fun x => by unfold pers psA psK at x; unfold eV; omega)))
      · refine scE_tr (s' := s7) ?_ (scE_tr (scE_tr (scE_up (fun k x => by unfold pers psA psK at x; unfold eV; omega)) (scE_uf (fun x => by unfold pers psA psK at x; unfold eV; omega))) (scE_uf (fun x => by unfold pers psA psK at x; unfold eV; omega)))
        rw [hs7]
        exact scE_tr (scE_uf (fun x => by unfold pers psA psK at x; unfold eV; omega)) (scE_up (fun k x => by unfold pers psA psK at x; unfold eV; omega))
    · refine jM_of (s := s) (M := s 69) (Z := (s 69, s 69, 0)) ?_ (fun i i0 i1 => ?_) ?_ ?_
      · show metR (s7 24) (s 69)
        rw [o7 24 (by decide) (by decide), o 24 (by decide), lo5 24 (by decide) (by decide) (by decide) (by decide)]
        exact M1
      · show s 69 i = s7 69 i
        rw [o7 69 (by decide) (by decide)]
        exact (q2 i i0 i1).symm
      · show s7 22 4 = 0
        rw [o7 22 (by decide) (by decide), o 22 (by decide), lo5 22 (by decide) (by decide) (by decide) (by decide)]
        exact w1
      · show s7 54 29 = 0
        rw [k7 29 (by decide)]
        exact q3
    · show jQ (s7 48 3) (s 54 45 + 1) (s7 54 40) 20 (s7 50) (ud (s7 80) (s 54 45) ((L + 1 : Nat) : Int)) (s7 49) (cps (s7 82) (s7 81) 0 (12 * s 54 45) ((L + 1 : Nat) : Int))
      rw [k7 40 (by decide), z 40 (by decide) (by decide) (by decide) (by decide) (by decide) (by decide), z82, o7 48 (by decide) (by decide), o 48 (by decide), o7 49 (by decide) (by decide), o 49 (by decide), o7 50 (by decide) (by decide), o 50 (by decide), o7 80 (by decide) (by decide), o7 81 (by decide) (by decide), q1.1 80 (by decide) (by decide) (by decide) (by decide) (by decide), q1.1 81 (by decide) (by decide) (by decide) (by decide) (by decide), m5 80 (by decide), m5 81 (by decide), ← hs5]
      show jQ (s 54 45 + 1) (s 54 45 + 1) (s 54 40) 20 (ud (s1 50) (s 54 45) ((L + 1 : Nat) : Int)) (ud (s 80) (s 54 45) ((L + 1 : Nat) : Int)) (cps g1 (s1 49) 0 (12 * s 54 45) ((L + 1 : Nat) : Int)) (cps g2 (s 81) 0 (12 * s 54 45) ((L + 1 : Nat) : Int))
      rw [m50, m49]
      have w' : jQ (s 48 3) (s 54 45) (s 54 40) 20 (s 50) (s 80) (s 49) (s 81) := a11
      rw [w'.1] at w'
      refine jQ_add w' y6 L12 (fun k k0 k1 => ?_)
      rw [← hg1, ← hg2]
      refine ⟨rwL_ag (n := ((L + 1 : Nat) : Int)) L E.2.1 _ _ (fun j j0 j1 => ?_) k k0 k1, rwL_ok hok (n := ((L + 1 : Nat) : Int)) L E.2.1 _ e0.1 e0.2 hL (fun j j0 j1 => ?_) k k0 k1⟩
      · rw [ud_ap, ud_ap, if_pos (by omega), if_pos (by omega)]
      · rw [ud_ap, if_pos (by omega)]; exact e1
    · show s7 35 5 = s7 54 53
      rw [o7 35 (by decide) (by decide), o 35 (by decide), lo5 35 (by decide) (by decide) (by decide) (by decide), v1, k7 53 (by decide)]
      exact (q4 (by omega)).1.symm
end SV
