/-! DRAW -/
theorem scE_D {s s' : Nat → Int → Int} (hf : frD s s') : scE eD s s' := by
  intro a k x y
  rw [hf a (by unfold pers psA psK at x; omega) (by unfold pers psA psK at x; omega) (by unfold pers psA psK at x; omega) (by unfold pers psA psK at x; omega) (by unfold pers psA psK at x; omega) (by unfold pers psA psK at x; omega) (by unfold pers psA psK at x; unfold eD at y; omega) (by unfold pers psA psK at x; omega)]
theorem scE_E {s s' : Nat → Int → Int} (hf : frE s s') : scE eD s s' := by
  intro a k x y
  by_cases c : a = 54
  · subst c
    exact hf.2 k (by unfold pers psA psK at x; omega) (by unfold pers psA psK at x; omega) (by unfold pers psA psK at x; omega) (by unfold pers psA psK at x; omega) (by unfold pers psA psK at x; omega) (by unfold pers psA psK at x; omega) (by unfold pers psA psK at x; unfold eD at y; omega) (by unfold pers psA psK at x; omega)
  · rw [hf.1 a c (by unfold pers psA psK at x; omega) (by unfold pers psA psK at x; omega) (by unfold pers psA psK at x; unfold eD at y; omega)]
section DS
variable {cs : Int → Option Cd} {hk : Int → Option (Int × Int)} {ch : Ch} {rl : Cd} {M : Int → Int} {m : Int}
theorem keepK_ok {w : Int} {z : Z3} {p : Rw} {K : Kp} (hK : okK m K) (hp : okR m p) : okK m (keepK (brk w cs hk ch rl p.1 p.2 0 z) p K) := by
  have hst := stop_rg (w := w) (cs := cs) (hk := hk) (ch := ch) (rl := rl) (p := p) (z := z)
  have h2 := hp.2.1
  unfold keepK
  split
  · exact hK
  split
  · rename_i c
    exact kAdd_ok hK c (by omega) (fun k k0 k1 => hp.2.2 k k0 (by omega))
  · exact hK
theorem drL_ok (hm : 0 < m) : ∀ (f : Nat) (x : Int) (K : Kp) (Mm : Int → Int) (p : Rw), okK m K → (drL cs hk ch rl M m f x K Mm).1 = some p → okR m p
  | 0, _, _, _, _, _, e => by cases e
  | f + 1, x, K, Mm, p, hK, e => by
    have hok := drw_ok (x := x) hm hK
    unfold drL at e
    cases hB : (brk 1 cs hk ch rl (drw m x K).2.1 (drw m x K).2.2 0 (stN M, Mm, 0)).1 with
    | none =>
      rw [hB] at e
      exact drL_ok hm f _ _ _ p (keepK_ok hK hok) e
    | some j =>
      rw [hB] at e
      have hj := brk_lt _ _ _ _ hB
      have := Option.some.inj e
      subst this
      have h2 := hok.2.1
      refine ⟨by show 1 ≤ j + 1; omega, by show j + 1 ≤ 12; omega, fun k k0 k1 => ?_⟩
      have k1' : k < ((j + 1 : Nat) : Int) := k1
      exact hok.2.2 k k0 (by omega)
end DS
section DZ
variable {G : az_G} {D : Nat} {xs : List Int} {a b c : Int}
theorem st_draw : stp xs (Inv xs) G (D + 14) 0 0 mX10_draw mX11_draw [vi a, vi b, vi c] := by
  refine stp_i (fun h s r cs hk ru hc hJ => ?_)
  obtain ⟨a1, a2, a3, a4, a5, a6, a7, a8, a9, a10, a11, a12, a13⟩ := hJ
  have hJ : J h s r cs hk ru := ⟨a1, a2, a3, a4, a5, a6, a7, a8, a9, a10, a11, a12, a13⟩
  have h20 := a11.2.1
  have h8 := a6.2.1
  have m30 := a10.2.1
  have hbad : ¬ ((0 ≤ a ∧ a < s 54 13) ∧ (1 ≤ c ∧ c ≤ 200) ∧ s 54 40 ≠ 0) → aft xs G (D + 14) mX11_draw [vi a, vi b, vi c] (some (vi (-1))) (PS h s r) := by
    intro y
    refine aft_i hc ?_
    refine vX11_draw (d := D + 13) ?_
    rw [rc_54]
    refine sX11_isRule a6.2.1 (fun y1 y2 => ?_) (fun _ => ?_)
    · rw [atI_q, if_neg (by decide)]
      refine sX11_in (fun y3 y4 => ?_) (fun _ => ?_)
      · rw [atI_q, if_neg (by decide), ri_54_40, if_pos (Classical.byContradiction (fun z => y ⟨⟨y1, y2⟩, ⟨y3, y4⟩, z⟩))]
        exact fin_i rfl hJ
      · rw [atI_q, if_pos rfl]
        exact fin_i rfl hJ
    · rw [atI_q, if_pos rfl]
      exact fin_i rfl hJ
  refine vX10_draw (d := D + 13) ?_
  rw [rc_16]
  refine sX10_isRule (by rw [a6.1]; exact a6.2.1) (fun y1 y2 => ?_) (fun y => ?_)
  rotate_left
  · rw [atI_q, if_pos rfl]; rw [a6.1] at y; exact hbad (fun z => y z.1)
  rw [a6.1] at y2
  rw [atI_q, if_neg (by decide)]
  refine sX10_isWithin (fun y3 y4 => ?_) (fun y => ?_)
  rotate_left
  · rw [atI_q, if_pos rfl]; exact hbad (fun z => y z.2.1)
  rw [atI_q, if_neg (by decide), ro_16_4, rc_35]
  refine vX7_choiceCount ?_
  rw [ri_35_4, atI_q, a10.1]
  by_cases y5 : s 54 40 = 0
  · rw [if_pos y5]; exact hbad (fun z => z.2.2 y5)
  rw [if_neg y5, ro_16_6, rc_48]
  refine vX6_isFull ?_
  rw [ri_48_3, ri_48_0, a11.1]
  by_cases y6 : s 54 45 < 20
  rotate_left
  · rw [if_neg y6, atI_q, if_neg (by decide)]
    refine aft_i hc ?_
    refine vX11_draw (d := D + 13) ?_
    rw [rc_54]
    refine sX11_isRule a6.2.1 (fun _ _ => ?_) (fun y => absurd ⟨y1, y2⟩ y)
    rw [atI_q, if_neg (by decide)]
    refine sX11_in (fun _ _ => ?_) (fun y => absurd ⟨y3, y4⟩ y)
    rw [atI_q, if_neg (by decide), ri_54_40, if_neg y5, ri_54_45, if_pos (by omega)]
    exact fin_i rfl hJ
  obtain ⟨_, _, bb, lv, hr51, hcc⟩ := a6.2.2 a y1 y2
  rw [if_pos y6, atI_q, if_pos rfl, ro_16_5, ro_16_7, lr_51, hr51, ro_16_8, rc_44]
  refine ⟨y1, by omega, ?_⟩
  refine vX2_drawUntilBroken (d := D + 12) ?_
  rw [wi_44_3]
  have hKC := KC_J hJ
  have hKR := KR_J hJ
  have hQ0 : jQ (s 45 3) (s 54 50) (s 54 40) 8 (s 47) (s 83) (s 46) (s 84) := a12
  have hm : 0 < s 54 40 := by omega
  refine cDraw (d := D) (s0 := s) hKC hm y1 y2 hr51 c.toNat c 0 (uf s 44 3 b) (s 54 50, s 83, s 84) (s 69) (by omega) (by decide) y4 (frD_uf (by decide)) hQ0 a8.1 a8.2.1 (fun s1 R hR f1 Q1 M1 w1 g1 => ?_)
  have e54 : ∀ s' : Nat → Int → Int, frD s s' → ∀ x, 54 ≤ x → s' x = s x := fun s' hf x hx => hf x (by omega) (by omega) (by omega) (by omega) (by omega) (by omega) (by omega) (by omega)
  have hR0 : R = drL cs hk (chS s) (ru a) (s 66) (s 54 40) c.toNat b (s 54 50, s 83, s 84) (s 69) := hR
  -- the reference
  have RF : ∀ (s' : Nat → Int → Int) (Q : Option az_V → az_H → Prop), (∀ x, 54 ≤ x → s' x = s x) → (∀ s3 : Nat → Int → Int, frE s' s3 → okK (s 54 40) R.2.1 → s3 54 50 = R.2.1.1 → s3 83 = R.2.1.2.1 → s3 84 = R.2.1.2.2 → (∀ i, 0 ≤ i → i < 144 → s3 69 i = R.2.2 i) → s3 54 29 = 0 → KR s3 cs hk ru (chS s) (s 54 40) (s 54 13) (s 66) → (R.1 = none → Q (some (vi (-2))) (PS h s3 r)) ∧ (∀ p, R.1 = some p → s3 54 48 = (p.2 : Int) → agR (s3 82) p → okR (s 54 40) p → brk0 cs hk (chS s) (ru a) (s 66) p.1 p.2 = some (p.2 - 1) → rcv (PS h s3 r) 54 11 (cz G mX11_makeLeast (D + 13) 0 0 [vo 54, vi a] (PS h s3 r) (fun v h4 => atV v (rcv h4 54 11 (cz G mX11_keepRow (D + 13) 0 0 [vo 54] h4 (fun v h5 => atI v (fun r6 => Q (some (vi r6)) h5)))))))) → cz G mX11_draw (D + 14) 0 0 [vo 54, vi a, vi b, vi c] (PS h s' r) Q := by
    intro s' Q e' hK
    have hKR' : KR s' cs hk ru (chS s) (s 54 40) (s 54 13) (s 66) := KR_e (e' 56 (by decide)) (e' 57 (by decide)) (e' 58 (by decide)) (e' 59 (by decide)) (e' 61 (by decide)) (e' 67 (by decide)) (e' 68 (by decide)) (by rw [e' 54 (by decide)]) (e' 76 (by decide)) (e' 77 (by decide)) (e' 78 (by decide)) (e' 79 (by decide)) (by rw [e' 54 (by decide)]) (e' 66 (by decide)) hKR
    refine vX11_draw (d := D + 13) ?_
    rw [rc_54]
    refine sX11_isRule (by rw [e' 54 (by decide)]; exact a6.2.1) (fun _ _ => ?_) (fun y => absurd (by rw [e' 54 (by decide)]; exact ⟨y1, y2⟩) y)
    rw [atI_q, if_neg (by decide)]
    refine sX11_in (fun _ _ => ?_) (fun y => absurd ⟨y3, y4⟩ y)
    rw [atI_q, if_neg (by decide), ri_54_40, if_neg (by rw [e' 54 (by decide)]; exact y5), ri_54_45, if_neg (by rw [e' 54 (by decide)]; omega), wi_54_58]
    refine rDraw (d := D) (s0 := s') hKR' hm y1 y2 c.toNat c 0 (uf s' 54 58 b) (s 54 50, s 83, s 84) (s 69) (by omega) (by decide) y4 (frE_54 (by decide)) (okK_Q hQ0) (by show s' 54 50 = s 54 50; rw [e' 54 (by decide)]) (e' 83 (by decide)) (e' 84 (by decide)) (fun i _ _ => by show s' 69 i = s 69 i; rw [e' 69 (by decide)]) (by show s' 54 29 = 0; rw [e' 54 (by decide)]; exact a8.2.2) (fun s3 R' hR' q1 q2 q3 q4 q5 q6 q7 => ?_)
    have eR : R' = R := hR'.trans hR0.symm
    subst eR
    exact hK s3 q1 q2 q3 q4 q5 q6 q7 (KR_E q1 hKR')
  have o45 : ∀ s3 : Nat → Int → Int, frE s1 s3 → s3 45 = s1 45 ∧ s3 46 = s1 46 ∧ s3 47 = s1 47 ∧ s3 24 = s1 24 ∧ s3 22 = s1 22 := fun s3 hf => ⟨hf.1 45 (by decide) (by decide) (by decide) (by decide), hf.1 46 (by decide) (by decide) (by decide) (by decide), hf.1 47 (by decide) (by decide) (by decide) (by decide), hf.1 24 (by decide) (by decide) (by decide) (by decide), hf.1 22 (by decide) (by decide) (by decide) (by decide)⟩
  rw [atI_q]
  cases hR1 : R.1 with
  | none =>
    rw [if_pos (show dI none = -2 from rfl)]
    refine aft_i hc (RF s1 _ (e54 s1 f1) (fun s3 q1 q2 q3 q4 q5 q6 q7 _ => ⟨fun _ => ?_, fun p e => ?_⟩))
    rotate_left
    · rw [hR1] at e; cases e
    obtain ⟨o1, o2, o3, o4, o5⟩ := o45 s3 q1
    have f13 : scE eD s s3 := scE_tr (scE_D f1) (scE_E q1)
    have z40 : s3 54 40 = s 54 40 := (q1.2 40 (by decide) (by decide) (by decide) (by decide) (by decide) (by decide) (by decide) (by decide)).trans (by rw [e54 s1 f1 54 (by decide)])
    have z45 : s3 54 45 = s 54 45 := (q1.2 45 (by decide) (by decide) (by decide) (by decide) (by decide) (by decide) (by decide) (by decide)).trans (by rw [e54 s1 f1 54 (by decide)])
    have lo : ∀ x, 48 ≤ x → x ≤ 50 → s3 x = s x := fun x x0 x1 => (q1.1 x (by omega) (by omega) (by omega) (by omega)).trans (f1 x (by omega) (by omega) (by omega) (by omega) (by omega) (by omega) (by omega) (by omega))
    have hi : ∀ x, 80 ≤ x → x ≤ 81 → s3 x = s x := fun x x0 x1 => (q1.1 x (by omega) (by omega) (by omega) (by omega)).trans (e54 s1 f1 x (by omega))
    refine fin_i rfl (J_D f13 ?_ ?_ ?_ hJ)
    · refine jM_of (s := s) (M := s 69) (Z := (s 69, R.2.2, 0)) (by rw [o4]; exact M1) (fun i i0 i1 => (q6 i i0 i1).symm) (by rw [o5]; exact w1) q7
    · exact jW_e (by rw [lo 48 (by decide) (by decide)]) z45 z40 (lo 50 (by decide) (by decide)) (hi 80 (by decide) (by decide)) (lo 49 (by decide) (by decide)) (hi 81 (by decide) (by decide)) a11
    · show jQ (s3 45 3) (s3 54 50) (s3 54 40) 8 (s3 47) (s3 83) (s3 46) (s3 84)
      rw [o1, o2, o3, q3, q4, q5, z40]
      exact Q1
  | some p =>
    have hpok : okR (s 54 40) p := drL_ok hm _ _ _ _ _ (okK_Q hQ0) (hR0 ▸ hR1)
    have hp1 := hpok.1
    have hp12 := hpok.2.1
    have gp := g1 p hR1
    rw [show dI (some p) = (p.2 : Int) from rfl, if_neg (by omega), ro_16_6, ro_16_8, ro_16_4, ro_16_8, ro_16_7, lr_51, hr51, rc_35]
    refine ⟨y1, by omega, ?_⟩
    have hKC1 : KC h s1 r cs hk ru (chS s) (s 54 40) (s 54 13) (s 66) := KC_e (by rw [f1 35 (by decide) (by decide) (by decide) (by decide) (by decide) (by decide) (by decide) (by decide)]) (f1 25 (by decide) (by decide) (by decide) (by decide) (by decide) (by decide) (by decide) (by decide)) hKC
    have hokC : okR (s 54 40) (s1 52, p.2) := ⟨hp1, hp12, fun k k0 k1 => by
      have k1' : k < (p.2 : Int) := k1
      show 0 ≤ s1 52 k ∧ s1 52 k < s 54 40
      rw [gp k k0 k1']
      exact hpok.2.2 k k0 k1'⟩
    refine cLeast (d := D) hKC1 ⟨frL_rf, M1, w1⟩ y1 y2 hr51 hokC (fun s4 fc4 g4 => ?_)
    generalize hp : lsO (brk0 cs hk (chS s) (ru a) (s 66)) 12 (s1 52, p.2) = p' at g4 ⊢
    have hp'ok : okR (s 54 40) p' := by rw [← hp]; exact lsO_ok (@brk0_lt cs hk (chS s) (ru a) (s 66)) 12 hokC
    have hp2 := hp'ok.2.1
    have l4 : ∀ y, y ≠ 22 → y ≠ 24 → y ≠ 27 → y ≠ 29 → y ≠ 34 → ¬ (31 ≤ y ∧ y ≤ 33) → y ≠ 43 → y ≠ 52 → s4 y = s1 y := fc4.1
    have l41 : ∀ y, 48 ≤ y → y ≤ 50 → s4 y = s y := fun y y0 y1 => (l4 y (by omega) (by omega) (by omega) (by omega) (by omega) (by omega) (by omega) (by omega)).trans (f1 y (by omega) (by omega) (by omega) (by omega) (by omega) (by omega) (by omega) (by omega))
    have m48 : s4 48 = s 48 := l41 48 (by decide) (by decide)
    have m49 : s4 49 = s 49 := l41 49 (by decide) (by decide)
    have m50 : s4 50 = s 50 := l41 50 (by decide) (by decide)
    rw [atI_q, rc_48]
    refine sX6_add48 (d := D + 12) (N := s 54 45) (by rw [m48]; exact a11.1) a11.2.1.1 y6 hp2 ?_
    rw [atI_q]
    generalize hs5 : uf (uf (up s4 49 (cps (s4 52) (s4 49) 0 (12 * s 54 45) p'.2)) 50 (s 54 45) p'.2) 48 3 (s 54 45 + 1) = s5
    have m5 : ∀ y, 54 ≤ y → s5 y = s y := fun y hy => by
      rw [← hs5, uf, up_ne (by omega), uf, up_ne (by omega), up_ne (by omega), l4 y (by omega) (by omega) (by omega) (by omega) (by omega) (by omega) (by omega) (by omega)]
      exact e54 s1 f1 y hy
    refine aft_i hc (RF s5 _ m5 (fun s6 q1 q2 q3 q4 q5 q6 q7 hKR6 => ⟨fun e => ?_, fun p2 e h48 h82 okq hbk => ?_⟩))
    · rw [hR1] at e; cases e
    have ep : p2 = p := Option.some.inj (e.symm.trans hR1)
    subst ep
    rw [rc_54]
    have hok6 : okR (s 54 40) (s6 82, p2.2) := ⟨hp1, hp12, fun k k0 k1 => by
      have k1' : k < (p2.2 : Int) := k1
      show 0 ≤ s6 82 k ∧ s6 82 k < s 54 40
      rw [h82 k k0 k1']
      exact hpok.2.2 k k0 k1'⟩
    refine rLeast (d := D + 6) (s0 := s6) (s := s6) hKR6 ⟨frY_rf, fun _ _ _ => rfl, q7⟩ y1 y2 h48 hok6 (by rw [brk0_ext (g' := p2.1) (fun k k0 k1 => h82 k k0 k1)]; exact hbk) (fun s7 fz7 g48 g82 => ?_)
    rw [show p2.2 - 1 + 1 = p2.2 by omega] at g48 g82
    rw [atV_q, rc_54]
    have heq : eqR (lsO (brk0 cs hk (chS s) (ru a) (s 66)) 12 (s6 82, p2.2)) p' := by
      rw [← hp]
      refine lsO_eq (B := brk0 cs hk (chS s) (ru a) (s 66)) (fun g g' k e => brk0_ext e) (@brk0_lt cs hk (chS s) (ru a) (s 66)) 12 ⟨rfl, fun k k0 k1 => ?_⟩
      have k1' : k < (p2.2 : Int) := k1
      show s6 82 k = s1 52 k
      rw [h82 k k0 k1', gp k k0 k1']
    generalize lsO (brk0 cs hk (chS s) (ru a) (s 66)) 12 (s6 82, p2.2) = p3 at g48 g82 heq
    rw [heq.1] at g48
    have y7 : ∀ y, y ≠ 54 → y ≠ 64 → ¬ (69 ≤ y ∧ y ≤ 75) → ¬ (82 ≤ y ∧ y ≤ 84) → s7 y = s5 y := fun y z1 z2 z3 z4 => (fz7.1.1 y z1 z2 z3 (by omega)).trans (q1.1 y z1 z2 z3 z4)
    have k7 : ∀ k, k ≠ 29 → k ≠ 30 → k ≠ 32 → k ≠ 33 → k ≠ 34 → k ≠ 48 → k ≠ 50 → k ≠ 58 → s7 54 k = s 54 k := fun k z1 z2 z3 z4 z5 z6 z7 z8 => ((fz7.1.2 k z2 z3 z4 z5 z6).trans (q1.2 k z1 z2 z3 z4 z5 z6 z7 z8)).trans (by rw [m5 54 (by decide)])
    have z45 : s7 54 45 = s 54 45 := k7 45 (by decide) (by decide) (by decide) (by decide) (by decide) (by decide) (by decide) (by decide)
    have z40 : s7 54 40 = s 54 40 := k7 40 (by decide) (by decide) (by decide) (by decide) (by decide) (by decide) (by decide) (by decide)
    have z50 : s7 54 50 = R.2.1.1 := (fz7.1.2 50 (by decide) (by decide) (by decide) (by decide) (by decide)).trans q3
    have z83 : s7 83 = R.2.1.2.1 := (fz7.1.1 83 (by decide) (by decide) (by decide) (by decide)).trans q4
    have z84 : s7 84 = R.2.1.2.2 := (fz7.1.1 84 (by decide) (by decide) (by decide) (by decide)).trans q5
    have lo5 : ∀ x, x = 22 ∨ x = 24 ∨ x = 45 ∨ x = 46 ∨ x = 47 → s7 x = s4 x := fun x hx => by
      rw [y7 x (by omega) (by omega) (by omega) (by omega), ← hs5, uf, up_ne (by omega), uf, up_ne (by omega), up_ne (by omega)]
    have lo4 : ∀ x, x = 45 ∨ x = 46 ∨ x = 47 → s7 x = s1 x := fun x hx => (lo5 x (by omega)).trans (l4 x (by omega) (by omega) (by omega) (by omega) (by omega) (by omega) (by omega) (by omega))
    refine sX11_keepRow (N := s 54 45) z45 a11.2.1.1 y6 g48 hp2 ?_
    rw [atI_q]
    refine fin_i rfl (J_D ?_ ?_ ?_ ?_ hJ)
    · refine scE_tr (s' := s5) ?_ (scE_tr (s' := s6) (scE_E q1) (scE_tr (scE_tr (scE_tr (scE_sc (sc_Y fz7.1)) (scE_up (fun k x => by unfold pers psA psK at x; unfold eD; omega))) (scE_uf (fun x => by unfold pers psA psK at x; unfold eD; omega))) (scE_uf (fun x => by unfold pers psA psK at x; unfold eD; omega))))
      rw [← hs5]
      exact scE_tr (scE_D f1) (scE_tr (scE_tr (scE_tr (scE_sc (sc_L fc4.1)) (scE_up (fun k x => by unfold pers psA psK at x; unfold eD; omega))) (scE_uf (fun x => by unfold pers psA psK at x; unfold eD; omega))) (scE_uf (fun x => by unfold pers psA psK at x; unfold eD; omega)))
    · refine jM_of (s := s) (M := s 69) (Z := (s 69, R.2.2, 0)) ?_ (fun i i0 i1 => ?_) ?_ fz7.2.2
      · show metR (s7 24) R.2.2
        rw [lo5 24 (by omega)]
        exact fc4.2.1
      · show R.2.2 i = s7 69 i
        rw [fz7.2.1 i i0 i1]
        exact (q6 i i0 i1).symm
      · show s7 22 4 = 0
        rw [lo5 22 (by omega)]
        exact fc4.2.2
    · show jQ (s7 48 3) (s 54 45 + 1) (s7 54 40) 20 (s7 50) (ud (s7 80) (s 54 45) p'.2) (s7 49) (cps (s7 82) (s7 81) 0 (12 * s 54 45) p'.2)
      rw [z40, y7 48 (by decide) (by decide) (by decide) (by decide), y7 49 (by decide) (by decide) (by decide) (by decide), y7 50 (by decide) (by decide) (by decide) (by decide), y7 80 (by decide) (by decide) (by decide) (by decide), y7 81 (by decide) (by decide) (by decide) (by decide), m5 80 (by decide), m5 81 (by decide), ← hs5]
      show jQ (s 54 45 + 1) (s 54 45 + 1) (s 54 40) 20 (ud (s4 50) (s 54 45) p'.2) (ud (s 80) (s 54 45) p'.2) (cps (s4 52) (s4 49) 0 (12 * s 54 45) p'.2) (cps (s7 82) (s 81) 0 (12 * s 54 45) p'.2)
      rw [m50, m49]
      have w' : jQ (s 48 3) (s 54 45) (s 54 40) 20 (s 50) (s 80) (s 49) (s 81) := a11
      rw [w'.1] at w'
      refine jQ_add w' y6 hp2 (fun k k0 k1 => ?_)
      have e1 := g4 k k0 k1
      have e2 := g82 k k0 (by rw [heq.1]; exact k1)
      have e3 := heq.2 k k0 (by rw [heq.1]; exact k1)
      rw [e1, e2, e3]
      exact ⟨rfl, hp'ok.2.2 k k0 k1⟩
    · show jQ (s7 45 3) (s7 54 50) (s7 54 40) 8 (s7 47) (s7 83) (s7 46) (s7 84)
      rw [z40, z50, z83, z84, lo4 45 (by omega), lo4 46 (by omega), lo4 47 (by omega)]
      exact Q1
end DZ
